import java.util.EnumSet;
import java.util.Set;

/** The boundary cases of promises 10 to 13, 17 and 18 and of the terms behind them, a test for each sentence. */
public final class LineEdgesTest {
    private static final int NONE = BoxProver.NONE;
    private static final int MOST_NUMBER = 1_000_000_000;
    private static final long MOST_BOUND = 1_000_000_000_000L;
    private static final int[] WRONG_WORDS = {-1, 4, 5, 256, 65536, Edge.BIG, Edge.SMALL};
    /** 5 times 858993460 and 8 times 536870912 are small numbers when the upper bits are lost. */
    private static final int[] WRONG_LINES = {-1, 200, 201, 858993460, 536870912, Edge.BIG, Edge.SMALL};
    private static final Set<State> WHOLE = EnumSet.of(State.WHOLE_BY_CLOSE, State.WHOLE_BY_FINISH);

    public static void main(String[] args) {
        Due.watch();
        assumeARowItsNumber();
        assumeTurnedTimesMinus1();
        assumeNoneNoSuchRow();
        assumeNoneKind1Turned();
        assumeNoneWhole();
        assumeNone200();
        boundOfEachWord();
        boundNoneNoSuchWord();
        boundNoneWhole();
        boundNone200();
        addTimes0To1000();
        addOfALineWithItself();
        addNoneNoSuchTimes();
        addNoneNoSuchLine();
        addNumbersTo10To9();
        addBoundsTo10To12();
        addCountsTheSumAlone();
        addNoneWhatWouldBeSmallInLostBits();
        addNoneWhole();
        addNone200();
        divideBy1To10To9();
        divideTheBoundRoundedDown();
        divideTheGreatestLines();
        divideNoneNoSuchDivisor();
        divideNoneNoSuchLine();
        divideNoneANumberThatDoesNotDivide();
        divideNoneWhole();
        divideNone200();
        linesFrom0To200();
        lineNoneSuchLine();
        lineNoneSuchWhat();
        lineOfALineThatWent();
        Due.end();
    }

    /** A log with these rows as its lines, none of them turned. */
    private static Asked linesOf(int[]... rows) {
        Asked x = new Asked();
        for (int[] r : rows) {
            x.row(1, r[0], r[1], r[2], r[3], r[4]);
        }
        for (int i = 0; i < rows.length; i++) {
            Due.is("10: line " + i, x.assume(i, false), i);
        }
        return x;
    }

    private static int[] only(int w, int c, int bound) {
        int[] row = {0, 0, 0, 0, bound};
        row[w] = c;
        return row;
    }

    /** Rows of both kinds, and this many lines. */
    private static Asked withLines(int many) {
        Asked x = State.impossible();
        State.fill(x, 0, many);
        return x;
    }

    /** Of a full log, and of one that is one line short of it. */
    private static void theLastLineIs199(String name, Edge.Call call, long... line) {
        Asked x = withLines(199);
        Due.is(name + ": line 199 comes", call.on(x), 199);
        Due.is(name + ": 200 lines", x.lines(), 200);
        Edge.lineIs(x, 199, line);
        Due.is(name + ": no more", call.on(x), NONE);
        Due.is(name + ": still 200", x.lines(), 200);
        Edge.lineIs(x, 199, line);
        Due.is(name + ": no line 200", x.line(200, 4), Due.NO_LONG);
        Edge.refused(name + ": 200 lines", State.TWO_HUNDRED_LINES, call, NONE);
        Edge.refused(name + ": 200 lines, no split", () -> withLines(200), call, NONE);
    }

    /** Promise 10: "A LINE: a row .., its number": from the first row to the last of sixteen. */
    private static void assumeARowItsNumber() {
        Asked x = new Asked();
        for (int i = 0; i < 16; i++) {
            x.row(i % 2, i, -i, 99, -99, i % 4 < 2 ? 9999 : -9999);
        }
        Due.is("10: no lines yet", x.lines(), 0);
        for (int i = 0; i < 16; i++) {
            Due.is("10: its number", x.assume(i, false), i);
            Edge.lineIs(x, i, i, -i, 99, -99, i % 4 < 2 ? 9999 : -9999);
        }
        Due.is("17: lines()", x.lines(), 16);
        Due.is("10: the same row again", x.assume(15, false), 16);
        Due.is("10: rows stay", x.count(0), 16);
    }

    /** Promise 10: "(turned: all of it times -1 ..)": at the ends of numbers and bounds. */
    private static void assumeTurnedTimesMinus1() {
        Asked x = new Asked();
        x.row(0, 99, -99, 0, 1, 9999);
        x.row(0, -1, 0, 99, -99, -9999);
        x.row(0, 0, 0, 0, 0, 0);
        Due.is("10: turned", x.assume(0, true), 0);
        Due.is("10: turned", x.assume(1, true), 1);
        Due.is("10: turned", x.assume(2, true), 2);
        Due.is("10: not turned", x.assume(0, false), 3);
        Edge.lineIs(x, 0, -99, 99, 0, -1, -9999);
        Edge.lineIs(x, 1, 1, 0, -99, 99, 9999);
        Edge.lineIs(x, 2, 0, 0, 0, 0, 0);
        Edge.lineIs(x, 3, 99, -99, 0, 1, 9999);
        Edge.rowIs(x, 0, 0, 99, -99, 0, 1, 9999);
    }

    /** Promise 10: "NONE: no such row". */
    private static void assumeNoneNoSuchRow() {
        for (int wrong : new int[] {-1, 16, 17, 715827883, 1073741824, Edge.BIG, Edge.SMALL}) {
            Edge.refusedAlways("10: row " + wrong, x -> x.assume(wrong, false), NONE);
            Edge.refusedAlways("10: row " + wrong + " turned", x -> x.assume(wrong, true), NONE);
        }
        Edge.refused("10: no rows", State.NEW, x -> x.assume(0, false), NONE);
        Edge.refused("10: behind the last row", State.OPEN_LOG, x -> x.assume(2, false), NONE);
        Edge.refused("10: behind the last row, turned", State.OPEN_LOG, x -> x.assume(2, true), NONE);
        Due.is("10: the last row", State.OPEN_LOG.make().assume(1, false), 5);
    }

    /** Promise 10: "NONE: .. a row of kind 1 turned". */
    private static void assumeNoneKind1Turned() {
        Edge.refused("10: kind 1 turned", State.OPEN_LOG, x -> x.assume(1, true), NONE);
        Edge.refused("10: kind 1 turned, the last of sixteen", State.SIXTEEN_ROWS, x -> x.assume(15, true), NONE);
        Asked x = State.OPEN_LOG.make();
        Due.is("10: kind 1 not turned", x.assume(1, false), 5);
        Edge.lineIs(x, 5, 1, -2, 3, -4, 5);
        Due.is("10: kind 0 turned", x.assume(0, true), 6);
        Edge.lineIs(x, 6, 0, 0, 0, 0, 1);
    }

    /** Promise 10: "NONE: .. the log is whole". */
    private static void assumeNoneWhole() {
        Edge.refusedIn(WHOLE, "10: whole", x -> x.assume(0, false), NONE);
        Edge.refusedIn(WHOLE, "10: whole, turned", x -> x.assume(0, true), NONE);
    }

    /** Promise 10: "NONE: .. or has 200". */
    private static void assumeNone200() {
        theLastLineIs199("10: assume", x -> x.assume(1, false), 1, -2, 3, -4, 5);
        theLastLineIs199("10: assume turned", x -> x.assume(0, true), 0, 0, 0, 0, 1);
    }

    /** Promise 11: "A LINE: x_word is at most 15 (lower: -x_word is at most 15)", from the first word to the last. */
    private static void boundOfEachWord() {
        Asked x = new Asked();
        for (int w = 0; w < 4; w++) {
            long[] upper = {0, 0, 0, 0, 15};
            long[] lower = {0, 0, 0, 0, 15};
            upper[w] = 1;
            lower[w] = -1;
            Due.is("11: x" + w + " at most 15", x.bound(w, false), 2 * w);
            Due.is("11: -x" + w + " at most 15", x.bound(w, true), 2 * w + 1);
            Edge.lineIs(x, 2 * w, upper);
            Edge.lineIs(x, 2 * w + 1, lower);
        }
        Due.is("17: lines()", x.lines(), 8);
    }

    /** Promise 11: "NONE: no such word". */
    private static void boundNoneNoSuchWord() {
        for (int wrong : WRONG_WORDS) {
            Edge.refusedAlways("11: word " + wrong, x -> x.bound(wrong, false), NONE);
            Edge.refusedAlways("11: word " + wrong + " lower", x -> x.bound(wrong, true), NONE);
        }
    }

    /** Promise 11: "or as above": the log is whole. */
    private static void boundNoneWhole() {
        Edge.refusedIn(WHOLE, "11: whole", x -> x.bound(0, false), NONE);
        Edge.refusedIn(WHOLE, "11: whole, lower", x -> x.bound(3, true), NONE);
    }

    /** Promise 11: "or as above": it has 200. */
    private static void boundNone200() {
        theLastLineIs199("11: bound", x -> x.bound(2, false), 0, 0, 1, 0, 15);
        theLastLineIs199("11: bound lower", x -> x.bound(3, true), 0, 0, 0, -1, 15);
    }

    /** Promise 12: "m times line a and n times line b (m, n 0 .. 1000)": at both ends of m and n. */
    private static void addTimes0To1000() {
        Asked x = linesOf(new int[] {1, -2, 3, 0, 10}, new int[] {-3, 5, 0, 7, -20});
        Due.is("12: 0 and 0", x.add(0, 0, 1, 0), 2);
        Edge.lineIs(x, 2, 0, 0, 0, 0, 0);
        Due.is("12: 1000 and 0", x.add(0, 1000, 1, 0), 3);
        Edge.lineIs(x, 3, 1000, -2000, 3000, 0, 10000);
        Due.is("12: 0 and 1000", x.add(0, 0, 1, 1000), 4);
        Edge.lineIs(x, 4, -3000, 5000, 0, 7000, -20000);
        Due.is("12: 1000 and 1000", x.add(0, 1000, 1, 1000), 5);
        Edge.lineIs(x, 5, -2000, 3000, 3000, 7000, -10000);
        Due.is("12: 1 and 999", x.add(0, 1, 1, 999), 6);
        Edge.lineIs(x, 6, -2996, 4993, 3, 6993, -19970);
        Edge.lineIs(x, 0, 1, -2, 3, 0, 10);
        Edge.lineIs(x, 1, -3, 5, 0, 7, -20);
        Due.is("17: lines()", x.lines(), 7);
    }

    /** Promise 12, when a is b; and when a comes behind b. */
    private static void addOfALineWithItself() {
        Asked x = linesOf(new int[] {1, -2, 3, -4, 10}, new int[] {0, 0, 0, 1, -1});
        Due.is("12: the same line", x.add(0, 2, 0, 3), 2);
        Edge.lineIs(x, 2, 5, -10, 15, -20, 50);
        Due.is("12: the last line and the first", x.add(2, 1, 0, 1), 3);
        Edge.lineIs(x, 3, 6, -12, 18, -24, 60);
        Due.is("12: the last line with itself", x.add(3, 1, 3, 0), 4);
        Edge.lineIs(x, 4, 6, -12, 18, -24, 60);
    }

    /** Promise 12: "(m, n 0 .. 1000). NONE: none such". */
    private static void addNoneNoSuchTimes() {
        for (int wrong : new int[] {-1, 1001, -1000, 65536, Edge.BIG, Edge.SMALL}) {
            Edge.refusedAlways("12: m " + wrong, x -> x.add(0, wrong, 0, 1), NONE);
            Edge.refusedAlways("12: n " + wrong, x -> x.add(0, 1, 0, wrong), NONE);
            Edge.refusedAlways("12: m and n " + wrong, x -> x.add(0, wrong, 0, wrong), NONE);
            Edge.refused("12: " + wrong + " times a line of zeros", LineEdgesTest::zeros, x -> x.add(0, wrong, 0, 0), NONE);
        }
    }

    private static Asked zeros() {
        return linesOf(new int[] {0, 0, 0, 0, 0});
    }

    /** Promise 12: "NONE: none such", of the lines a and b, also when they are taken 0 times. */
    private static void addNoneNoSuchLine() {
        for (int wrong : WRONG_LINES) {
            Edge.refusedAlways("12: a " + wrong, x -> x.add(wrong, 1, 0, 1), NONE);
            Edge.refusedAlways("12: b " + wrong, x -> x.add(0, 1, wrong, 1), NONE);
            Edge.refusedAlways("12: a " + wrong + " times 0", x -> x.add(wrong, 0, 0, 1), NONE);
            Edge.refusedAlways("12: b " + wrong + " times 0", x -> x.add(0, 1, wrong, 0), NONE);
        }
        Edge.refused("12: no lines", State.NEW, x -> x.add(0, 1, 0, 1), NONE);
        Edge.refused("12: a behind the last", State.OPEN_LOG, x -> x.add(5, 1, 0, 1), NONE);
        Edge.refused("12: b behind the last", State.OPEN_LOG, x -> x.add(0, 1, 5, 1), NONE);
        Asked x = State.OPEN_LOG.make();
        Due.is("12: the last and the first", x.add(4, 1, 0, 1), 5);
        Edge.lineIs(x, 5, 1, 0, 0, 0, 14);
    }

    /** For word w line 0 has the number sign, line 2 has 10^6 times that, and line 4 has 10^9 - 1 times that. */
    private static Asked greatNumber(int w, int sign) {
        Asked x = linesOf(only(w, sign, 0));
        Due.is("12: 1000", x.add(0, 1000, 0, 0), 1);
        Due.is("12: 1000000", x.add(1, 1000, 0, 0), 2);
        x.add(2, 999, 1, 999);
        Due.is("12: 10^9 - 1", x.add(3, 1, 0, 999), 4);
        Due.is("18: 10^9 - 1", x.line(4, w), sign * (MOST_NUMBER - 1L));
        return x;
    }

    /** Terms: "numbers (-10^9 .. 10^9)"; promise 12: "NONE: .. a number .. is too great", in each word, of both signs. */
    private static void addNumbersTo10To9() {
        for (int w = 0; w < 4; w++) {
            for (int sign = -1; sign <= 1; sign += 2) {
                int word = w;
                int s = sign;
                String name = "12: word " + w + ", sign " + sign;
                Asked x = greatNumber(w, sign);
                Due.is(name + ": 10^9", x.add(4, 1, 0, 1), 5);
                Due.is(name + ": 10^9", x.line(5, w), (long) sign * MOST_NUMBER);
                Due.is(name + ": 10^9 by 1000", x.add(2, 1000, 0, 0), 6);
                Due.is(name + ": 10^9 by 1000", x.line(6, w), (long) sign * MOST_NUMBER);
                Due.is(name + ": 10^9 + 1", x.add(5, 1, 0, 1), NONE);
                Due.is(name + ": lines", x.lines(), 7);
                Start start = () -> greatNumber(word, s);
                Edge.refused(name + ": 10^9 + 1", start, y -> y.add(4, 1, 0, 2), NONE);
                Edge.refused(name + ": 10^9 + 1, b and a", start, y -> y.add(0, 2, 4, 1), NONE);
                Edge.refused(name + ": twice as much", start, y -> y.add(4, 1, 4, 1), NONE);
                Edge.refused(name + ": 2000 times as much", start, y -> y.add(4, 1000, 4, 1000), NONE);
            }
        }
    }

    /** Line 0 has the bound sign, line 3 has 10^9 times that, and line 6 has 10^12 - 1 times that. */
    private static Asked greatBound(int sign) {
        Asked x = linesOf(only(0, 0, sign));
        x.add(0, 1000, 0, 0);
        x.add(1, 1000, 0, 0);
        x.add(2, 1000, 0, 0);
        x.add(2, 999, 1, 999);
        x.add(4, 1, 0, 999);
        Due.is("12: 10^12 - 1", x.add(3, 999, 5, 1), 6);
        Due.is("18: 10^12 - 1", x.line(6, 4), sign * (MOST_BOUND - 1));
        return x;
    }

    /** Terms: "at most a bound (-10^12 .. 10^12)"; promise 12: "NONE: .. or the bound is too great", of both signs. */
    private static void addBoundsTo10To12() {
        for (int sign = -1; sign <= 1; sign += 2) {
            int s = sign;
            String name = "12: bound, sign " + sign;
            Asked x = greatBound(sign);
            Due.is(name + ": 10^12", x.add(6, 1, 0, 1), 7);
            Edge.lineIs(x, 7, 0, 0, 0, 0, sign * MOST_BOUND);
            Due.is(name + ": 10^12 by 1000", x.add(3, 1000, 0, 0), 8);
            Edge.lineIs(x, 8, 0, 0, 0, 0, sign * MOST_BOUND);
            Due.is(name + ": 10^12 + 1", x.add(7, 1, 0, 1), NONE);
            Due.is(name + ": lines", x.lines(), 9);
            Start start = () -> greatBound(s);
            Edge.refused(name + ": 10^12 + 1", start, y -> y.add(6, 1, 0, 2), NONE);
            Edge.refused(name + ": 10^12 + 1, b and a", start, y -> y.add(0, 2, 6, 1), NONE);
            Edge.refused(name + ": twice as much", start, y -> y.add(6, 1, 6, 1), NONE);
            Edge.refused(name + ": 2000 times as much", start, y -> y.add(6, 1000, 6, 1000), NONE);
        }
    }

    /** Promise 12: the line is the sum; m times line a alone may be greater than a line can be. */
    private static void addCountsTheSumAlone() {
        Asked x = linesOf(new int[] {1, 0, 0, 0, 1}, new int[] {-1, 0, 0, 0, -1});
        x.add(0, 1000, 1, 0);
        x.add(2, 1000, 1, 0);
        x.add(3, 1000, 1, 0);
        x.add(1, 1000, 0, 0);
        x.add(5, 1000, 0, 0);
        Due.is("12: -10^9", x.add(6, 1000, 0, 0), 7);
        Due.is("12: 10^12 less 10^12", x.add(4, 1000, 7, 1000), 8);
        Edge.lineIs(x, 8, 0, 0, 0, 0, 0);
        Due.is("12: 10^12 less 999 times 10^9", x.add(4, 1000, 7, 999), 9);
        Edge.lineIs(x, 9, MOST_NUMBER, 0, 0, 0, MOST_NUMBER);
        Due.is("12: 10^12 less 998 times 10^9", x.add(4, 1000, 7, 998), NONE);
        Due.is("17: lines()", x.lines(), 10);
    }

    /** Line 4 has 10^9, and line 5 has 294 967 296: 4 times the former and the latter make 2^32. */
    private static Asked towardsTwoTo32(int w) {
        Asked x = linesOf(only(w, 1, 0));
        x.add(0, 1000, 0, 0);
        x.add(1, 1000, 0, 0);
        x.add(1, 967, 0, 296);
        x.add(2, 1000, 0, 0);
        x.add(2, 294, 3, 1);
        return x;
    }

    /** Promise 12: "a number or the bound is too great", also when its lower bits alone would not be. */
    private static void addNoneWhatWouldBeSmallInLostBits() {
        for (int w = 0; w < 5; w++) {
            int word = w;
            Asked x = towardsTwoTo32(w);
            Due.is("18: 10^9", x.line(4, w), MOST_NUMBER);
            Due.is("18: the rest to 2^32", x.line(5, w), 294_967_296);
            if (w < 4) {
                Edge.refused("12: 2^32 for word " + w, () -> towardsTwoTo32(word), y -> y.add(4, 4, 5, 1), NONE);
            } else {
                Due.is("12: a bound of 2^32", x.add(4, 4, 5, 1), 6);
                Edge.lineIs(x, 6, 0, 0, 0, 0, 4_294_967_296L);
            }
        }
    }

    /** Promise 12: "or as above": the log is whole. */
    private static void addNoneWhole() {
        Edge.refusedIn(WHOLE, "12: whole", x -> x.add(0, 1, 1, 1), NONE);
        Edge.refusedIn(WHOLE, "12: whole, times 0", x -> x.add(0, 0, 0, 0), NONE);
    }

    /** Promise 12: "or as above": it has 200. */
    private static void addNone200() {
        // Lines 0 and 1 of withLines are -x0 at most 15, and x1 at most 15.
        theLastLineIs199("12: add", x -> x.add(0, 2, 1, 3), -2, 3, 0, 0, 75);
    }

    /** Promise 13: "line a over d (1 .. 10^9)": at both ends of d. */
    private static void divideBy1To10To9() {
        Asked x = linesOf(new int[] {6, -12, 0, 18, 17}, new int[] {0, 0, 0, 0, 1}, new int[] {0, 0, 0, 0, -1});
        Due.is("13: over 1", x.divide(0, 1), 3);
        Edge.lineIs(x, 3, 6, -12, 0, 18, 17);
        Due.is("13: over 6", x.divide(0, 6), 4);
        Edge.lineIs(x, 4, 1, -2, 0, 3, 2);
        Due.is("13: over 10^9", x.divide(1, MOST_NUMBER), 5);
        Edge.lineIs(x, 5, 0, 0, 0, 0, 0);
        Due.is("13: over 10^9, below 0", x.divide(2, MOST_NUMBER), 6);
        Edge.lineIs(x, 6, 0, 0, 0, 0, -1);
        Due.is("13: the last line", x.divide(6, 1), 7);
        Edge.lineIs(x, 0, 6, -12, 0, 18, 17);
        Due.is("17: lines()", x.lines(), 8);
    }

    /** Promise 13: "the bound rounded down", on both sides of 0 and of each multiple. */
    private static void divideTheBoundRoundedDown() {
        int[] bounds = {-7, -6, -5, -4, -3, -2, -1, 0, 1, 2, 3, 4, 5, 6, 7};
        int[] overThree = {-3, -2, -2, -2, -1, -1, -1, 0, 0, 0, 1, 1, 1, 2, 2};
        for (int i = 0; i < bounds.length; i++) {
            Asked x = linesOf(new int[] {3, -3, 0, 6, bounds[i]});
            Due.is("13: " + bounds[i] + " over 3", x.divide(0, 3), 1);
            Edge.lineIs(x, 1, 1, -1, 0, 2, overThree[i]);
        }
        Asked x = linesOf(new int[] {0, 0, 0, 0, 9999}, new int[] {0, 0, 0, 0, -9999});
        int[] divisors = {9998, 9999, 10000, Edge.BIG / 4};
        int[] upper = {1, 1, 0, 0};
        int[] lower = {-2, -1, -1, -1};
        for (int i = 0; i < divisors.length; i++) {
            Due.is("13: 9999 over " + divisors[i], x.divide(0, divisors[i]), 2 + 2 * i);
            Due.is("18: 9999 over " + divisors[i], x.line(2 + 2 * i, 4), upper[i]);
            Due.is("13: -9999 over " + divisors[i], x.divide(1, divisors[i]), 3 + 2 * i);
            Due.is("18: -9999 over " + divisors[i], x.line(3 + 2 * i, 4), lower[i]);
        }
    }

    /** Promise 13 with the greatest numbers and bounds that a line has. */
    private static void divideTheGreatestLines() {
        for (int sign = -1; sign <= 1; sign += 2) {
            Asked x = greatNumber(2, sign);
            x.add(4, 1, 0, 1);
            Due.is("13: 10^9 over 10^9", x.divide(5, MOST_NUMBER), 6);
            Edge.lineIs(x, 6, 0, 0, sign, 0, 0);
            Due.is("13: 10^9 over 1", x.divide(5, 1), 7);
            Edge.lineIs(x, 7, 0, 0, (long) sign * MOST_NUMBER, 0, 0);
            Due.is("13: 10^9 - 1 over 10^9", x.divide(4, MOST_NUMBER), NONE);
            x = greatBound(sign);
            x.add(6, 1, 0, 1);
            Due.is("13: 10^12 over 1", x.divide(7, 1), 8);
            Edge.lineIs(x, 8, 0, 0, 0, 0, sign * MOST_BOUND);
            Due.is("13: 10^12 over 10^9", x.divide(7, MOST_NUMBER), 9);
            Edge.lineIs(x, 9, 0, 0, 0, 0, sign * 1000L);
            Due.is("13: 10^12 - 1 over 10^9", x.divide(6, MOST_NUMBER), 10);
            Edge.lineIs(x, 10, 0, 0, 0, 0, sign > 0 ? 999 : -1000);
            Due.is("13: 10^12 - 1 over 10^9 - 1", x.divide(6, MOST_NUMBER - 1), 11);
            Edge.lineIs(x, 11, 0, 0, 0, 0, sign > 0 ? 1000 : -1001);
        }
    }

    /** Promise 13: "(1 .. 10^9)": other divisors, of a line of zeros that every divisor divides. */
    private static void divideNoneNoSuchDivisor() {
        for (int wrong : new int[] {0, -1, MOST_NUMBER + 1, -MOST_NUMBER, Edge.BIG, Edge.SMALL}) {
            Edge.refused("13: over " + wrong, LineEdgesTest::zeros, x -> x.divide(0, wrong), NONE);
            Edge.refusedAlways("13: over " + wrong, x -> x.divide(0, wrong), NONE);
        }
    }

    /** Promise 13: "NONE: no such line". */
    private static void divideNoneNoSuchLine() {
        for (int wrong : WRONG_LINES) {
            Edge.refusedAlways("13: line " + wrong, x -> x.divide(wrong, 1), NONE);
        }
        Edge.refused("13: no lines", State.NEW, x -> x.divide(0, 1), NONE);
        Edge.refused("13: behind the last", State.OPEN_LOG, x -> x.divide(5, 1), NONE);
        Due.is("13: the last", State.OPEN_LOG.make().divide(4, 1), 5);
    }

    /** Promise 13: "NONE: .. a number that d does not divide", in each word; the bound is not asked. */
    private static void divideNoneANumberThatDoesNotDivide() {
        for (int w = 0; w < 4; w++) {
            for (int c : new int[] {-7, -5, -1, 1, 5, 7, 9}) {
                int[] row = {6, -6, 12, 0, 6};
                row[w] = c;
                Edge.refused("13: " + c + " over 6 in word " + w, () -> linesOf(row), x -> x.divide(0, 6), NONE);
            }
        }
        int[] row = {99, 0, 0, 0, 99};
        Edge.refused("13: 99 over 100", () -> linesOf(row), x -> x.divide(0, 100), NONE);
        Edge.refused("13: 99 over 10^9", () -> linesOf(row), x -> x.divide(0, MOST_NUMBER), NONE);
        Asked x = linesOf(row);
        Due.is("13: 99 over 99", x.divide(0, 99), 1);
        Edge.lineIs(x, 1, 1, 0, 0, 0, 1);
        x = linesOf(new int[] {6, -6, 12, 0, 7});
        Due.is("13: a bound that 6 does not divide", x.divide(0, 6), 1);
        Edge.lineIs(x, 1, 1, -1, 2, 0, 1);
    }

    /** Promise 13: "or as above": the log is whole. */
    private static void divideNoneWhole() {
        Edge.refusedIn(WHOLE, "13: whole", x -> x.divide(0, 1), NONE);
        Edge.refusedIn(WHOLE, "13: whole, the last line", x -> x.divide(1, 1), NONE);
    }

    /** Promise 13: "or as above": it has 200. */
    private static void divideNone200() {
        theLastLineIs199("13: divide", x -> x.divide(1, 1), 0, 1, 0, 0, 15);
    }

    /** Terms: "LINES, 200 at most"; promise 17: "How many lines the log has." */
    private static void linesFrom0To200() {
        Asked x = new Asked();
        Due.is("17: none", x.lines(), 0);
        for (int i = 0; i < 200; i++) {
            Due.is("17: a line comes", x.bound(i % 4, false), i);
            Due.is("17: lines", x.lines(), i + 1);
        }
        Due.is("17: no more comes", x.bound(0, false), NONE);
        Due.is("17: 200", x.lines(), 200);
        x.push();
        Due.is("17: none again", x.lines(), 0);
        for (State state : State.values()) {
            Edge.leavesAll("17: lines() in " + state, state, Asked::lines, state.make().lines());
        }
    }

    /** Promise 18: "Long.MIN_VALUE: none such", of the line. */
    private static void lineNoneSuchLine() {
        for (int wrong : WRONG_LINES) {
            Edge.refusedAlways("18: line " + wrong, x -> x.line(wrong, 0), Due.NO_LONG);
            Edge.refusedAlways("18: bound of line " + wrong, x -> x.line(wrong, 4), Due.NO_LONG);
        }
        for (int many : new int[] {0, 1, 2, 199, 200}) {
            Asked x = withLines(many);
            for (int what = 0; what < 5; what++) {
                Due.is("18: behind the last of " + many, x.line(many, what), Due.NO_LONG);
            }
            Due.is("18: the last of " + many, x.line(many - 1, 4), many == 0 ? Due.NO_LONG : 15);
            Due.is("18: the first of " + many, x.line(0, 0), many == 0 ? Due.NO_LONG : -1);
        }
    }

    /** Promise 18: "what = 0 to 3 its numbers, 4 its bound. Long.MIN_VALUE: none such." */
    private static void lineNoneSuchWhat() {
        Asked x = linesOf(new int[] {1, 2, 3, 4, 5}, new int[] {6, 7, 8, 9, 10}, new int[] {11, 12, 13, 14, 15});
        Edge.lineIs(x, 1, 6, 7, 8, 9, 10);
        for (int wrong : new int[] {-1, 5, 6, -5, 256, Edge.BIG, Edge.SMALL}) {
            for (int i = 0; i < 3; i++) {
                Due.is("18: what " + wrong + " of line " + i, x.line(i, wrong), Due.NO_LONG);
            }
            Edge.refusedAlways("18: what " + wrong, y -> y.line(0, wrong), Due.NO_LONG);
        }
    }

    /** Promise 18, a line that came and went: by a closing, and by a change of rows. */
    private static void lineOfALineThatWent() {
        Asked x = State.OPEN_LOG.make();
        Due.is("18: line 4 is there", x.line(4, 4), -1);
        Due.is("15: it closes", x.close(4), 2);
        Due.is("18: line 4 went", x.line(4, 4), Due.NO_LONG);
        Due.is("12: it can't be added", x.add(4, 1, 0, 1), NONE);
        Due.is("13: nor divided", x.divide(4, 1), NONE);
        Due.is("15: nor close", x.close(4), NONE);
        Due.is("17: lines", x.lines(), 4);
        Due.is("18: line 3 is there", x.line(3, 4), 3);
        x.push();
        Due.is("18: line 3 went", x.line(3, 4), Due.NO_LONG);
        Due.is("18: line 0 went", x.line(0, 4), Due.NO_LONG);
    }
}
