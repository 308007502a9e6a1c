import java.util.EnumSet;
import java.util.Set;

/** The boundary cases of promises 14 to 16, 19 and 20 and of the terms behind them, a test for each sentence. */
public final class CaseEdgesTest {
    private static final int NONE = BoxProver.NONE;
    private static final int[] WRONG_WORDS = {-1, 4, 5, 256, 65536, Edge.BIG, Edge.SMALL};
    private static final int[] WRONG_KS = {-17, 16, 256, 65536, Edge.BIG, Edge.SMALL};
    private static final int[] WRONG_LINES = {-1, 200, 201, 858993460, 536870912, Edge.BIG, Edge.SMALL};
    private static final Set<State> WHOLE = EnumSet.of(State.WHOLE_BY_CLOSE, State.WHOLE_BY_FINISH);

    public static void main(String[] args) {
        Due.watch();
        splitTheLineOfCaseOne();
        splitKFromMinus16To15();
        splitNoneNoSuchWord();
        splitNoneNoSuchK();
        splitNone10AreOpen();
        splitComesAgainWhenOneIsClosed();
        splitNoneWhole();
        splitNone200();
        closeTheFirstBranch();
        closeByANumberBelow0();
        closeCaseOneItGoesOnWithCaseTwo();
        closeCaseTwoAtTheEndsOfK();
        closeCaseTwoClosesTheBranchAround();
        closeTenAtOnce();
        closeStopsAtACaseOne();
        closeByALineFromBeforeTheSplit();
        closeWith200Lines();
        closeNoneNoSuchLine();
        closeNoneItDoesNotClose();
        closeNoneWhole();
        nothingComesToAWholeLog();
        finishAllLinesIfThereIsNoSplit();
        finishTheLinesFromBeforeTheOutermostSplit();
        finishTenSplits();
        finish0AndItStays();
        finishASolutionAtTheEdgeOfACase();
        finishWhereTheLastSolutionGoes();
        finishNoneWhole();
        finishAgainWhenTheRowsChange();
        ofSplitTheOutermostFirst();
        ofSplitNoneSuchSplit();
        ofSplitNoneSuchWhat();
        ofSplitOfASplitThatIsClosed();
        countFromNoneToAll();
        countOfClosings();
        countNoneAnotherNumber();
        the512thCall();
        Due.end();
    }

    private static Asked impossible() {
        return State.impossible();
    }

    /** Closes by the line of row 0, "0 is -1". */
    private static int closeByTheRow(Asked x) {
        return x.close(x.assume(0, false));
    }

    /** Splits 0 .. many - 1, each in its case two but for those before the given one; line 0 closes. */
    private static Asked nested(int many, int caseOnes) {
        Asked x = impossible();
        x.assume(0, false);
        for (int i = 0; i < many; i++) {
            Due.is("14: split " + i, x.split(i % 4, i), i + 1);
            if (i >= caseOnes) {
                Due.is("15: case two of split " + i, x.close(0), i + 1);
            }
        }
        return x;
    }

    /** Promise 14: "the number of the line of CASE one"; terms: "a line that x_v is at most k (CASE one)". */
    private static void splitTheLineOfCaseOne() {
        for (int w = 0; w < 4; w++) {
            long[] line = {0, 0, 0, 0, -3};
            line[w] = 1;
            Asked x = new Asked();
            Due.is("14: the first line", x.split(w, -3), 0);
            Edge.lineIs(x, 0, line);
            Edge.splitIs(x, 0, w, -3, 1, 0);
            Edge.logIs("14: a split", x, 1, 0, 1, 0);
            Due.is("11: a line", x.bound(0, false), 1);
            Due.is("14: the third line", x.split(w, -3), 2);
            Edge.lineIs(x, 2, line);
            Edge.splitIs(x, 1, w, -3, 1, 2);
            Edge.logIs("14: two splits", x, 3, 0, 2, 0);
        }
    }

    /** Promise 14: "(k -16 .. 15)", at both ends. */
    private static void splitKFromMinus16To15() {
        for (int w = 0; w < 4; w++) {
            for (int k = -16; k <= 15; k += 31) {
                long[] line = {0, 0, 0, 0, k};
                line[w] = 1;
                Asked x = new Asked();
                Due.is("14: k " + k, x.split(w, k), 0);
                Edge.lineIs(x, 0, line);
                Edge.splitIs(x, 0, w, k, 1, 0);
                Edge.logIs("14: k " + k, x, 1, 0, 1, 0);
            }
        }
    }

    /** Promise 14: "NONE: no such word". */
    private static void splitNoneNoSuchWord() {
        for (int wrong : WRONG_WORDS) {
            Edge.refusedAlways("14: word " + wrong, x -> x.split(wrong, 0), NONE);
        }
    }

    /** Promise 14: "NONE: no such .. k". */
    private static void splitNoneNoSuchK() {
        for (int wrong : WRONG_KS) {
            for (int w = 0; w < 4; w++) {
                int word = w;
                Edge.refusedAlways("14: k " + wrong, x -> x.split(word, wrong), NONE);
            }
        }
    }

    /** Terms: "10 splits at most are open"; promise 14: "NONE: .. 10 are open". */
    private static void splitNone10AreOpen() {
        Asked x = nested(9, 9);
        Due.is("14: the tenth", x.split(3, 15), 10);
        Edge.splitIs(x, 9, 3, 15, 1, 10);
        Edge.logIs("14: ten", x, 11, 0, 10, 0);
        Due.is("14: an eleventh", x.split(3, 15), NONE);
        Edge.logIs("14: still ten", x, 11, 0, 10, 0);
        Edge.refused("14: an eleventh", State.TEN_SPLITS, y -> y.split(0, 0), NONE);
        Edge.refused("14: an eleventh, all in case two", () -> nested(10, 0), y -> y.split(0, 0), NONE);
        Edge.refused("14: an eleventh, some in case two", () -> nested(10, 5), y -> y.split(1, -16), NONE);
    }

    /** "10 are open": a split in its case two is open, one that is closed is not. */
    private static void splitComesAgainWhenOneIsClosed() {
        Asked x = State.TEN_SPLITS.make();
        Due.is("15: the tenth in case two", x.close(0), 10);
        Due.is("14: ten are open", x.split(0, 0), NONE);
        Due.is("15: the tenth closed, the ninth in case two", x.close(0), 9);
        Due.is("14: a tenth again", x.split(2, -1), 10);
        Edge.splitIs(x, 9, 2, -1, 1, 10);
        Due.is("14: ten are open", x.split(0, 0), NONE);
        Edge.logIs("14: ten", x, 11, 0, 10, 2);
    }

    /** Promise 14: "or as above": the log is whole. */
    private static void splitNoneWhole() {
        Edge.refusedIn(WHOLE, "14: whole", x -> x.split(0, 0), NONE);
    }

    /** Promise 14: "or as above": it has 200. */
    private static void splitNone200() {
        Asked x = impossible();
        State.fill(x, 0, 199);
        Due.is("14: the last line", x.split(3, -1), 199);
        Edge.lineIs(x, 199, 0, 0, 0, 1, -1);
        Edge.splitIs(x, 0, 3, -1, 1, 199);
        Due.is("14: 200 lines", x.split(3, -1), NONE);
        Edge.logIs("14: 200 lines", x, 200, 0, 1, 0);
        Edge.refused("14: 200 lines", State.TWO_HUNDRED_LINES, y -> y.split(0, 0), NONE);
    }

    /** Terms: "When the first branch (that of no split) is closed, the log is WHOLE"; promise 15: 0 splits then. */
    private static void closeTheFirstBranch() {
        Asked x = impossible();
        x.bound(0, false);
        x.assume(0, false);
        x.bound(1, false);
        Edge.logIs("15: before", x, 3, 0, 0, 0);
        Due.is("15: by a line between", x.close(1), 0);
        Edge.logIs("15: whole, with all lines", x, 3, 1, 0, 1);
        Edge.lineIs(x, 2, 0, 1, 0, 0, 15);
        x = impossible();
        Due.is("15: by the only line", closeByTheRow(x), 0);
        Edge.logIs("15: whole", x, 1, 1, 0, 1);
    }

    /** Terms: "A branch is closed by a line whose numbers are all 0, and its bound below 0", from -1 to -10^12. */
    private static void closeByANumberBelow0() {
        Asked x = impossible();
        x.assume(0, false);
        x.add(0, 1000, 0, 0);
        x.add(1, 1000, 0, 0);
        x.add(2, 1000, 0, 0);
        Due.is("12: -10^12", x.add(3, 1000, 0, 0), 4);
        x.split(0, 0);
        Edge.lineIs(x, 4, 0, 0, 0, 0, -1_000_000_000_000L);
        Due.is("15: by -10^12", x.close(4), 1);
        Edge.logIs("15: case two", x, 6, 0, 1, 1);
        Due.is("15: by -1", x.close(0), 0);
        Edge.logIs("15: whole", x, 5, 1, 0, 2);
    }

    /** Terms: "when this is CLOSED, with all lines since the split gone, it goes on with a line that -x_v is at most -k - 1". */
    private static void closeCaseOneItGoesOnWithCaseTwo() {
        for (int w = 0; w < 4; w++) {
            long[] line = {0, 0, 0, 0, -8};
            line[w] = -1;
            Asked x = impossible();
            x.bound(3, false);
            x.split(w, 7);
            x.bound(0, false);
            x.bound(1, false);
            Due.is("15: the split stays open", closeByTheRow(x), 1);
            Edge.logIs("15: case two", x, 2, 0, 1, 1);
            Edge.lineIs(x, 0, 0, 0, 0, 1, 15);
            Edge.lineIs(x, 1, line);
            Edge.splitIs(x, 0, w, 7, 2, 1);
            Due.is("11: it goes on", x.bound(2, false), 2);
        }
        Asked x = impossible();
        x.assume(0, false);
        x.split(2, 0);
        Due.is("15: no line since the split but its own", x.close(0), 1);
        Edge.lineIs(x, 1, 0, 0, -1, 0, -1);
        Edge.logIs("15: case two", x, 2, 0, 1, 1);
    }

    /** Promise 15: "the line of a CASE two is the last line then": of k -16 its bound is 15, of k 15 it is -16. */
    private static void closeCaseTwoAtTheEndsOfK() {
        int[] ks = {-16, -15, -1, 0, 14, 15};
        for (int w = 0; w < 4; w++) {
            for (int k : ks) {
                long[] line = {0, 0, 0, 0, -k - 1};
                line[w] = -1;
                Asked x = impossible();
                x.assume(0, false);
                x.split(w, k);
                Due.is("15: k " + k, x.close(0), 1);
                Edge.lineIs(x, x.lines() - 1, line);
                Edge.splitIs(x, 0, w, k, 2, 1);
                Edge.logIs("15: k " + k, x, 2, 0, 1, 1);
            }
        }
    }

    /** Terms: "when this is closed, the lines since the split are gone, too, and the branch .. is closed by that". */
    private static void closeCaseTwoClosesTheBranchAround() {
        Asked x = impossible();
        x.bound(0, false);
        x.split(1, 4);
        closeByTheRow(x);
        x.bound(2, false);
        Due.is("15: case two, then the first branch", closeByTheRow(x), 0);
        Edge.logIs("15: whole", x, 1, 1, 0, 2);
        Edge.lineIs(x, 0, 1, 0, 0, 0, 15);

        x = impossible();
        x.bound(0, false);
        x.split(1, 4);
        x.bound(2, true);
        x.split(3, -5);
        closeByTheRow(x);
        Edge.logIs("15: the inner in case two", x, 4, 0, 2, 1);
        Due.is("15: the inner closed, then case one around it", closeByTheRow(x), 1);
        Edge.logIs("15: the outer in case two", x, 2, 0, 1, 2);
        Edge.lineIs(x, 1, 0, -1, 0, 0, -5);
        Edge.splitIs(x, 0, 1, 4, 2, 1);
    }

    /** Terms: "(so one closing may close many)": all ten. */
    private static void closeTenAtOnce() {
        Asked x = nested(10, 0);
        Edge.logIs("15: ten in case two", x, 11, 0, 10, 10);
        Due.is("15: all at once", x.close(0), 0);
        Edge.logIs("15: whole", x, 1, 1, 0, 11);
        Edge.lineIs(x, 0, 0, 0, 0, 0, -1);
        x = nested(9, 0);
        Due.is("14: the tenth", x.split(0, 0), 10);
        Due.is("15: the tenth in case two", x.close(0), 10);
        Due.is("15: all at once", x.close(0), 0);
        Edge.logIs("15: whole", x, 1, 1, 0, 11);
    }

    /** Promise 15: "How many splits are open then (the line of a CASE two is the last line then, if one began)." */
    private static void closeStopsAtACaseOne() {
        for (int ones = 1; ones <= 10; ones++) {
            Asked x = nested(10, ones);
            Due.is("15: up to split " + (ones - 1), x.close(0), ones);
            Edge.logIs("15: case two of split " + (ones - 1), x, ones + 1, 0, ones, 11 - ones);
            int w = (ones - 1) % 4;
            Edge.splitIs(x, ones - 1, w, ones - 1, 2, ones);
            long[] line = {0, 0, 0, 0, -ones};
            line[w] = -1;
            Edge.lineIs(x, ones, line);
            if (ones > 1) {
                Edge.splitIs(x, ones - 2, (ones - 2) % 4, ones - 2, 1, ones - 1);
            }
        }
    }

    /** Promise 15: "A line closes the branch": one from before the split does, one since an inner split that went does not. */
    private static void closeByALineFromBeforeTheSplit() {
        Asked x = impossible();
        x.assume(0, false);
        x.split(0, 1);
        x.split(1, 1);
        Due.is("15: line 0 closes the inner case one", x.close(0), 2);
        Due.is("15: line 0 closes the inner case two", x.close(0), 1);
        x.split(1, 1);
        Due.is("10: a line in the branch", x.assume(0, false), 3);
        Due.is("15: line 3 closes", x.close(3), 2);
        Due.is("15: line 3 went by that", x.close(3), NONE);
        Edge.logIs("15: case two", x, 3, 0, 2, 3);
        Due.is("15: line 0 closes all", x.close(0), 0);
        Edge.logIs("15: whole", x, 1, 1, 0, 4);
    }

    /** Terms: "200 at most": the line of a case two has the place of that of case one, also the last. */
    private static void closeWith200Lines() {
        Asked x = impossible();
        x.assume(0, false);
        State.fill(x, 1, 199);
        Due.is("14: the last line", x.split(3, -1), 199);
        Due.is("15: full", x.close(0), 1);
        Edge.lineIs(x, 199, 0, 0, 0, -1, 0);
        Edge.splitIs(x, 0, 3, -1, 2, 199);
        Edge.logIs("15: full", x, 200, 0, 1, 1);
        Due.is("11: full", x.bound(0, false), NONE);
        Due.is("15: whole", x.close(0), 0);
        Edge.logIs("15: one line less", x, 199, 1, 0, 2);
        x = State.TWO_HUNDRED_LINES.make();
        Due.is("15: full, two splits", x.close(0), 2);
        Edge.logIs("15: the lines since are gone", x, 4, 0, 2, 1);
        Due.is("11: a line comes again", x.bound(0, false), 4);
        x = impossible();
        State.fill(x, 0, 199);
        Due.is("15: by line 199", closeByTheRow(x), 0);
        Edge.logIs("15: all 200 stay", x, 200, 1, 0, 1);
    }

    /** Promise 15: "NONE: no such line". */
    private static void closeNoneNoSuchLine() {
        for (int wrong : WRONG_LINES) {
            Edge.refusedAlways("15: line " + wrong, x -> x.close(wrong), NONE);
        }
        Edge.refused("15: no lines", State.NEW, x -> x.close(0), NONE);
        Edge.refused("15: behind the last", State.OPEN_LOG, x -> x.close(5), NONE);
        Edge.refused("15: a line that went", CaseEdgesTest::closingLineWent, x -> x.close(3), NONE);
        Due.is("15: the last", State.OPEN_LOG.make().close(4), 2);
    }

    private static Asked closingLineWent() {
        Asked x = impossible();
        x.bound(0, false);
        x.split(0, 0);
        x.bound(0, false);
        x.assume(0, false);
        x.close(3);
        return x;
    }

    /** Promise 15: "NONE: .. it does not close": a bound of 0, or a number that is not 0 in one word. */
    private static void closeNoneItDoesNotClose() {
        closeIsRefused("bound 0", 0, 0, 0, 0, 0);
        closeIsRefused("bound 1", 0, 0, 0, 0, 1);
        closeIsRefused("bound 9999", 0, 0, 0, 0, 9999);
        closeIsRefused("all numbers, bound -9999", 1, 1, 1, 1, -9999);
        for (int sign = -1; sign <= 1; sign += 2) {
            closeIsRefused("x0", sign, 0, 0, 0, -1);
            closeIsRefused("x1", 0, sign, 0, 0, -1);
            closeIsRefused("x2", 0, 0, sign, 0, -1);
            closeIsRefused("x3", 0, 0, 0, sign, -9999);
        }
        Asked x = withLine(0, 0, 0, 0, -1);
        Due.is("15: bound -1", x.close(0), 1);
        Edge.logIs("15: bound -1", x, 2, 0, 1, 1);
    }

    private static void closeIsRefused(String name, int... line) {
        Edge.refused("15: " + name, () -> withLine(line), x -> x.close(0), NONE);
    }

    private static Asked withLine(int... line) {
        Asked x = new Asked();
        x.push();
        x.row(1, line[0], line[1], line[2], line[3], line[4]);
        x.assume(0, false);
        x.split(0, 0);
        return x;
    }

    /** Promise 15: "NONE: .. the log is whole", also for a line that has closed it. */
    private static void closeNoneWhole() {
        Edge.refused("15: whole", State.WHOLE_BY_CLOSE, x -> x.close(1), NONE);
        Edge.refused("15: whole by finish()", State.WHOLE_BY_FINISH, x -> x.close(0), NONE);
    }

    /** Terms: "the log is WHOLE; nothing comes to it any more", by any call; other calls still answer. */
    private static void nothingComesToAWholeLog() {
        for (State state : WHOLE) {
            Asked x = state.make();
            int lines = x.lines();
            int closings = x.count(4);
            Due.is("10: whole", x.assume(0, false), NONE);
            Due.is("11: whole", x.bound(0, false), NONE);
            Due.is("12: whole", x.add(0, 1, 0, 1), NONE);
            Due.is("13: whole", x.divide(0, 1), NONE);
            Due.is("14: whole", x.split(0, 0), NONE);
            Due.is("15: whole", x.close(0), NONE);
            Due.is("15: whole", x.close(1), NONE);
            Due.is("16: whole", x.finish(), NONE);
            Edge.logIs("whole", x, lines, 1, 0, closings);
            Due.is("6: whole", x.decide(), false);
            Due.is("2: a row comes", x.row(1, 0, 0, 0, 0, 0), 2);
            Edge.logIs("a new log", x, 0, 0, 0, 0);
        }
    }

    /** Promise 16: "1, and it is whole, with the lines .. (all if there is none)": none, one, 200. */
    private static void finishAllLinesIfThereIsNoSplit() {
        for (int many : new int[] {0, 1, 199, 200}) {
            Asked x = impossible();
            State.fill(x, 0, many);
            Due.is("16: " + many + " lines", x.finish(), 1);
            Edge.logIs("16: " + many + " lines", x, many, 1, 0, 0);
            if (many > 0) {
                Edge.lineIs(x, 0, -1, 0, 0, 0, 15);
            }
        }
        Asked x = nested(2, 0);
        x.close(0);
        Due.is("16: a log whose splits are closed is whole", x.finish(), NONE);
    }

    /** Promise 16: "with the lines from before the outermost open split". */
    private static void finishTheLinesFromBeforeTheOutermostSplit() {
        for (int before : new int[] {0, 1, 2, 198, 199}) {
            Asked x = impossible();
            State.fill(x, 0, before);
            Due.is("14: the outermost", x.split(0, 0), before);
            if (before < 199) {
                x.split(1, 0);
            }
            Due.is("16: " + before + " before it", x.finish(), 1);
            Edge.logIs("16: " + before + " before it", x, before, 1, 0, 0);
        }
        Asked x = impossible();
        x.bound(0, false);
        x.split(0, 0);
        closeByTheRow(x);
        x.bound(1, false);
        x.split(1, 0);
        Due.is("16: the outermost in case two", x.finish(), 1);
        Edge.logIs("16: the outermost in case two", x, 1, 1, 0, 1);
        Edge.lineIs(x, 0, 1, 0, 0, 0, 15);
    }

    /** Promise 16 with 10 splits and 200 lines: nothing more needs to fit. */
    private static void finishTenSplits() {
        for (int ones = 0; ones <= 10; ones += 5) {
            Asked x = nested(10, ones);
            State.fill(x, x.lines(), 200);
            Edge.logIs("16: full", x, 200, 0, 10, 10 - ones);
            Due.is("16: full", x.finish(), 1);
            Edge.logIs("16: full", x, 1, 1, 0, 10 - ones);
            Edge.lineIs(x, 0, 0, 0, 0, 0, -1);
        }
    }

    /** Promise 16: "0, and it stays: there is such a solution", in an empty log, an open one and a full one. */
    private static void finish0AndItStays() {
        Edge.leavesAll("16: no rows, no lines", State.NEW, Asked::finish, 0);
        Edge.leavesAll("16: an open log", State.OPEN_LOG_SOLVED, Asked::finish, 0);
        Edge.leavesAll("16: sixteen rows", State.SIXTEEN_ROWS, Asked::finish, 0);
        Edge.leavesAll("16: eight layers", State.EIGHT_LAYERS, Asked::finish, 0);
        Edge.leavesAll("16: ten splits and 200 lines", CaseEdgesTest::fullWithOneSolution, Asked::finish, 0);
    }

    /** One solution alone, at the corner 15, 15, 15, 15, in the last of the cases two. */
    private static Asked fullWithOneSolution() {
        Asked x = new Asked();
        x.row(0, 99, 99, 99, 99, 5940);
        for (int i = 0; i < 10; i++) {
            x.split(i % 4, -16 + i);
        }
        State.fill(x, 10, 200);
        return x;
    }

    /** Promise 16: "in what is open (the branch, and CASES two that are to come)": a solution at k, at k + 1. */
    private static void finishASolutionAtTheEdgeOfACase() {
        for (int w = 0; w < 4; w++) {
            for (int value : new int[] {-15, 0, 15}) {
                int word = w;
                for (int k = Math.max(-16, value - 1); k <= Math.min(15, value + 1); k++) {
                    int at = k;
                    Start start = () -> {
                        Asked x = new Asked();
                        x.row(0, word == 0 ? 1 : 0, word == 1 ? 1 : 0, word == 2 ? 1 : 0, word == 3 ? 1 : 0, value);
                        x.split(word, at);
                        return x;
                    };
                    Edge.leavesAll("16: x" + w + " is " + value + ", split at " + k, start, Asked::finish, 0);
                }
            }
            for (int value : new int[] {-16, 16}) {
                Asked x = new Asked();
                x.row(0, w == 0 ? 1 : 0, w == 1 ? 1 : 0, w == 2 ? 1 : 0, w == 3 ? 1 : 0, value);
                x.split(w, value == 16 ? 15 : -16);
                Due.is("16: x" + w + " is " + value, x.finish(), 1);
                Edge.logIs("16: x" + w + " is " + value, x, 0, 1, 0, 0);
            }
        }
    }

    /** Promise 16: a case one that is closed is not open; what is left then has the solution, or there is none. */
    private static void finishWhereTheLastSolutionGoes() {
        Asked x = new Asked();
        x.row(1, 0, -1, 0, 0, -15);
        x.push();
        Due.is("14: x1 is at most 14", x.split(1, 14), 0);
        x.assume(0, false);
        Due.is("12: that can't be", x.add(0, 1, 1, 1), 2);
        Due.is("15: case one", x.close(2), 1);
        Due.is("16: x1 is 15 in case two", x.finish(), 0);
        Edge.logIs("16: it stays", x, 1, 0, 1, 1);
        x.row(1, 0, 1, 0, 0, 14);
        Due.is("16: x1 is not", x.finish(), 1);
        Edge.logIs("16: whole", x, 0, 1, 0, 0);
        Due.is("4: the row goes", x.pop(), 1);
        Due.is("16: x1 is 15", x.finish(), 0);
        Edge.logIs("16: it stays", x, 0, 0, 0, 0);
    }

    /** Promise 16: "NONE: it is whole", by close() or by finish(). */
    private static void finishNoneWhole() {
        Edge.refusedIn(WHOLE, "16: whole", Asked::finish, NONE);
    }

    /** Promise 16 behind a change of rows: the log is not whole any more. */
    private static void finishAgainWhenTheRowsChange() {
        for (State state : WHOLE) {
            Asked x = state.make();
            x.push();
            Due.is("16: a new log", x.finish(), 1);
            Edge.logIs("16: a new log", x, 0, 1, 0, 0);
            Due.is("16: whole", x.finish(), NONE);
            x.pop();
            x.pop();
            Due.is("16: no rows", x.finish(), 0);
            Edge.logIs("16: no rows", x, 0, 0, 0, 0);
        }
    }

    /** Promise 19: "Of the k-th open split, the outermost first", from the first to the tenth. */
    private static void ofSplitTheOutermostFirst() {
        Asked x = State.TEN_SPLITS.make();
        for (int i = 0; i < 10; i++) {
            Edge.splitIs(x, i, i % 4, i - 5, 1, i + 1);
        }
        x = nested(10, 4);
        for (int i = 0; i < 10; i++) {
            Edge.splitIs(x, i, i % 4, i, i < 4 ? 1 : 2, i + 1);
        }
    }

    /** Promise 19: "Integer.MIN_VALUE: none such", of the split. */
    private static void ofSplitNoneSuchSplit() {
        // 4 times 1073741824 is 0 when the upper bits are lost.
        for (int wrong : new int[] {-1, 10, 11, 1073741824, 536870912, Edge.BIG, Edge.SMALL}) {
            for (int what = 0; what < 4; what++) {
                int of = what;
                Edge.refusedAlways("19: split " + wrong, x -> x.ofSplit(wrong, of), Due.NO_INT);
            }
        }
        for (int many = 0; many < 10; many++) {
            Asked x = nested(many, many / 2);
            for (int what = 0; what < 4; what++) {
                Due.is("19: behind the last of " + many, x.ofSplit(many, what), Due.NO_INT);
            }
            Due.is("19: the last of " + many, x.ofSplit(many - 1, 3), many == 0 ? Due.NO_INT : many);
        }
    }

    /** Promise 19: "what = 0 the word, 1 k, 2 the case (1, 2), 3 how many lines .. Integer.MIN_VALUE: none such." */
    private static void ofSplitNoneSuchWhat() {
        Asked x = nested(3, 1);
        Edge.splitIs(x, 1, 1, 1, 2, 2);
        for (int wrong : new int[] {-1, 4, 5, -4, 256, Edge.BIG, Edge.SMALL}) {
            for (int k = 0; k < 3; k++) {
                Due.is("19: what " + wrong + " of split " + k, x.ofSplit(k, wrong), Due.NO_INT);
            }
            Edge.refusedAlways("19: what " + wrong, y -> y.ofSplit(0, wrong), Due.NO_INT);
        }
    }

    /** Promise 19, a split that is not open any more: closed, finished, or its log gone. */
    private static void ofSplitOfASplitThatIsClosed() {
        Asked x = nested(10, 10);
        Due.is("15: the tenth ends", x.close(0), 10);
        Due.is("19: it is open", x.ofSplit(9, 2), 2);
        Due.is("15: it is closed", x.close(0), 9);
        Due.is("19: it was open", x.ofSplit(9, 2), Due.NO_INT);
        Edge.splitIs(x, 8, 0, 8, 2, 9);
        Due.is("16: all are closed", x.finish(), 1);
        Due.is("19: the outermost", x.ofSplit(0, 0), Due.NO_INT);
        x = nested(2, 2);
        x.push();
        Due.is("19: a new log", x.ofSplit(0, 0), Due.NO_INT);
    }

    /** Promise 20: "0 rows, 1 layers, 2 whether the log is whole (1 or 0), 3 open splits": none, and the most. */
    private static void countFromNoneToAll() {
        Asked x = new Asked();
        for (int what = 0; what <= 4; what++) {
            Due.is("20: none", x.count(what), 0);
        }
        for (int i = 1; i <= 8; i++) {
            x.push();
            x.row(1, 0, 0, 0, 0, -1);
            x.row(0, 0, 0, 0, 0, -1);
            countsAre(x, 2 * i, i, 0, 0, 0);
        }
        x.assume(0, false);
        for (int i = 1; i <= 10; i++) {
            x.split(0, 0);
            countsAre(x, 16, 8, 0, i, 0);
        }
        x.finish();
        countsAre(x, 16, 8, 1, 0, 0);
        x.pop();
        countsAre(x, 14, 7, 0, 0, 0);
    }

    private static void countsAre(Asked x, int... want) {
        for (int what = 0; what < 5; what++) {
            Due.is("20: count(" + what + ")", x.count(what), want[what]);
        }
    }

    /** Promise 20: "4 how often close() closed something in this log": not a refused one, not finish(), not another log. */
    private static void countOfClosings() {
        Asked x = nested(3, 1);
        Due.is("20: two", x.count(4), 2);
        Due.is("15: refused", x.close(1), NONE);
        Due.is("15: refused", x.close(-1), NONE);
        Due.is("15: refused", x.close(4), NONE);
        Due.is("20: a refused one does not count", x.count(4), 2);
        Due.is("15: two splits at once", x.close(0), 1);
        Due.is("20: one that closes many counts once", x.count(4), 3);
        Due.is("16: the rest", x.finish(), 1);
        Due.is("20: finish() does not count", x.count(4), 3);
        Due.is("15: whole", x.close(0), NONE);
        Due.is("20: nor does one when it is whole", x.count(4), 3);
        x.push();
        Due.is("20: a new log", x.count(4), 0);
        x.assume(0, false);
        Due.is("15: the new one", x.close(0), 0);
        Due.is("20: one", x.count(4), 1);
    }

    /** Promise 20: "NONE: another number." */
    private static void countNoneAnotherNumber() {
        for (int wrong : new int[] {-1, 5, 6, 256, 65536, Edge.BIG, Edge.SMALL}) {
            Edge.refusedAlways("20: count(" + wrong + ")", x -> x.count(wrong), NONE);
        }
    }

    /** "An object is used for at most 512 calls": the last of them answers as the first. */
    private static void the512thCall() {
        for (State state : State.values()) {
            Asked once = state.make();
            int next = once.bound(2, true);
            Asked x = state.make();
            while (x.calls() < Asked.MOST_CALLS - 1) {
                x.count(x.calls() % 7 - 1);
            }
            Due.is("the 512th call in " + state, x.bound(2, true), next);
        }
        Asked x = new Asked();
        while (x.calls() < Asked.MOST_CALLS - 4) {
            Due.is("3: push()", x.push(), 1);
            Due.is("2: row", x.row(0, 1, 0, 0, 0, 16), 0);
            Due.is("16: finish()", x.finish(), 1);
            Due.is("4: pop()", x.pop(), 1);
        }
        Due.is("11: call 509", x.bound(3, false), 0);
        Due.is("14: call 510", x.split(3, 14), 1);
        Due.is("16: call 511", x.finish(), 0);
        Due.is("8: call 512", x.solutions(), 923521);
    }
}
