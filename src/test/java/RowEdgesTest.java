import java.util.EnumSet;
import java.util.Set;

/** The boundary cases of promises 1 to 5 and of the terms behind them, a test for each sentence. */
public final class RowEdgesTest {
    private static final int NONE = BoxProver.NONE;
    /** Numbers that look right when their upper bits are lost are among the wrong ones. */
    private static final int[] WRONG_KINDS = {-1, 2, 256, 65536, Edge.BIG, Edge.SMALL};
    private static final int[] WRONG_NUMBERS = {-100, 100, 256, 65536, Edge.BIG, Edge.SMALL};
    private static final int[] WRONG_BOUNDS = {-10000, 10000, 65536, Edge.BIG, Edge.SMALL};
    private static final Set<State> WITH_LAYERS = EnumSet.complementOf(EnumSet.of(State.NEW));

    public static void main(String[] args) {
        Due.watch();
        newNoRows();
        newNoLayers();
        newAnEmptyLog();
        rowItsNumber();
        rowKindsAre0And1();
        rowNumbersAreFromMinus99To99();
        rowBoundsAreFromMinus9999To9999();
        rowNoneThereAre16();
        rowComesAgainWhenOneWent();
        pushHowManyThereAre();
        pushNoneThereAre8();
        pushComesAgainWhenOneWent();
        layersBeginWhereTheyAreTold();
        popHowManyRowsTheseWere();
        popOfALayerWithoutRows();
        popOfALayerWithAllRows();
        popNoneThereIsNone();
        ofRowNoneSuchRow();
        ofRowNoneSuchWhat();
        ofRowOfARowThatWent();
        eachChangeOfRowsMakesTheLogEmpty();
        aRefusedChangeLeavesTheLog();
        Due.end();
    }

    /** Promise 1: "No rows". */
    private static void newNoRows() {
        Asked x = new Asked();
        Due.is("1: no rows", x.count(0), 0);
        for (int what = -1; what <= 6; what++) {
            Due.is("1: no row 0", x.ofRow(0, what), Due.NO_INT);
        }
        Due.is("1: no row to assume", x.assume(0, false), NONE);
        Due.is("1: no row, all numbers do", x.solutions(), 31 * 31 * 31 * 31);
        Due.is("1: the first row", x.row(0, 0, 0, 0, 0, 0), 0);
        Due.is("1: one row then", x.count(0), 1);
    }

    /** Promise 1: "no layers". */
    private static void newNoLayers() {
        Asked x = new Asked();
        Due.is("1: no layers", x.count(1), 0);
        Due.is("1: no layer to drop", x.pop(), NONE);
        Due.is("1: the first layer", x.push(), 1);
        Due.is("1: one layer then", x.count(1), 1);
    }

    /** Promise 1: "an empty log". */
    private static void newAnEmptyLog() {
        Asked x = new Asked();
        Edge.logIs("1: an empty log", x, 0, 0, 0, 0);
        Due.is("1: no line to add", x.add(0, 1, 0, 1), NONE);
        Due.is("1: no line to add, times 0", x.add(0, 0, 0, 0), NONE);
        Due.is("1: no line to divide", x.divide(0, 1), NONE);
        Due.is("1: no line to close by", x.close(0), NONE);
        Edge.logIs("1: still empty", x, 0, 0, 0, 0);
        Due.is("1: the first line", x.bound(0, false), 0);
        Edge.logIs("1: a line", x, 1, 0, 0, 0);
    }

    /** Promise 2: "A row comes: its number." */
    private static void rowItsNumber() {
        Asked x = new Asked();
        for (int i = 0; i < 16; i++) {
            Due.is("2: no such row yet", x.ofRow(i, 0), Due.NO_INT);
            Due.is("2: its number", x.row(i % 2, i, -i, 2 * i, -2 * i, 100 * i), i);
            Due.is("2: rows then", x.count(0), i + 1);
        }
        for (int i = 0; i < 16; i++) {
            Edge.rowIs(x, i, i % 2, i, -i, 2 * i, -2 * i, 100 * i);
        }
    }

    /** Terms: "and a kind: 0, .. or 1"; promise 2: "NONE: a number is not such". */
    private static void rowKindsAre0And1() {
        Asked x = new Asked();
        Due.is("2: kind 0", x.row(0, 1, 2, 3, 4, 5), 0);
        Due.is("2: kind 1", x.row(1, 1, 2, 3, 4, 5), 1);
        Edge.rowIs(x, 0, 0, 1, 2, 3, 4, 5);
        Edge.rowIs(x, 1, 1, 1, 2, 3, 4, 5);
        for (int wrong : WRONG_KINDS) {
            Edge.refusedAlways("2: kind " + wrong, y -> y.row(wrong, 1, 2, 3, 4, 5), NONE);
        }
    }

    /** Terms: "for each word a number -99 .. 99"; promise 2: "NONE: a number is not such". */
    private static void rowNumbersAreFromMinus99To99() {
        for (int w = 0; w < 4; w++) {
            for (int kind = 0; kind <= 1; kind++) {
                int[] least = {kind, 1, 2, 3, 4, 5};
                int[] greatest = {kind, 1, 2, 3, 4, 5};
                least[1 + w] = -99;
                greatest[1 + w] = 99;
                Asked x = new Asked();
                Due.is("2: -99 for word " + w, rowOf(x, least), 0);
                Due.is("2: 99 for word " + w, rowOf(x, greatest), 1);
                Edge.rowIs(x, 0, least);
                Edge.rowIs(x, 1, greatest);
            }
            for (int wrong : WRONG_NUMBERS) {
                int[] row = {w % 2, 1, 2, 3, 4, 5};
                row[1 + w] = wrong;
                Edge.refusedAlways("2: " + wrong + " for word " + w, x -> rowOf(x, row), NONE);
            }
        }
    }

    /** Terms: "a BOUND -9999 .. 9999"; promise 2: "NONE: a number is not such". */
    private static void rowBoundsAreFromMinus9999To9999() {
        for (int kind = 0; kind <= 1; kind++) {
            Asked x = new Asked();
            Due.is("2: bound -9999", x.row(kind, 1, 2, 3, 4, -9999), 0);
            Due.is("2: bound 9999", x.row(kind, 1, 2, 3, 4, 9999), 1);
            Edge.rowIs(x, 0, kind, 1, 2, 3, 4, -9999);
            Edge.rowIs(x, 1, kind, 1, 2, 3, 4, 9999);
        }
        for (int wrong : WRONG_BOUNDS) {
            Edge.refusedAlways("2: bound " + wrong + " of kind 0", x -> x.row(0, 1, 2, 3, 4, wrong), NONE);
            Edge.refusedAlways("2: bound " + wrong + " of kind 1", x -> x.row(1, 1, 2, 3, 4, wrong), NONE);
        }
    }

    /** Terms: "Rows, 16 at most"; promise 2: "NONE: .. there are 16." */
    private static void rowNoneThereAre16() {
        Asked x = rows(15);
        Due.is("2: the sixteenth", x.row(0, 9, 8, 7, 6, 5), 15);
        Due.is("2: sixteen rows", x.count(0), 16);
        Edge.rowIs(x, 15, 0, 9, 8, 7, 6, 5);
        Due.is("2: it can be assumed", x.assume(15, true), 0);
        Edge.lineIs(x, 0, -9, -8, -7, -6, -5);
        Edge.refused("2: a seventeenth", () -> rows(16), y -> y.row(0, 9, 8, 7, 6, 5), NONE);
        Edge.refused("2: a seventeenth", State.SIXTEEN_ROWS, y -> y.row(1, 0, 0, 0, 0, -1), NONE);
        Edge.refused("2: a seventeenth that is wrong, too", State.SIXTEEN_ROWS, y -> y.row(2, 0, 0, 0, 0, 0), NONE);
    }

    /** "there are 16": rows that went are not counted. */
    private static void rowComesAgainWhenOneWent() {
        Asked x = rows(15);
        x.push();
        Due.is("2: the sixteenth", x.row(1, 1, 0, 0, 0, 1), 15);
        Due.is("2: full", x.row(1, 2, 0, 0, 0, 2), NONE);
        Due.is("4: one row goes", x.pop(), 1);
        Due.is("2: the sixteenth again", x.row(1, 3, 0, 0, 0, 3), 15);
        Edge.rowIs(x, 15, 1, 3, 0, 0, 0, 3);
        Due.is("2: full again", x.row(1, 2, 0, 0, 0, 2), NONE);
        Due.is("2: sixteen rows", x.count(0), 16);
    }

    /** Promise 3: "A layer begins. How many there are." */
    private static void pushHowManyThereAre() {
        Asked x = new Asked();
        for (int i = 1; i <= 8; i++) {
            Due.is("3: layers before", x.count(1), i - 1);
            Due.is("3: how many there are", x.push(), i);
            Due.is("3: layers behind", x.count(1), i);
            Due.is("3: no row comes by it", x.count(0), 0);
        }
    }

    /** Terms: "LAYERS (8 at most)"; promise 3: "NONE: there are 8." */
    private static void pushNoneThereAre8() {
        Edge.refused("3: a ninth", () -> layers(8), Asked::push, NONE);
        Edge.refused("3: a ninth", State.EIGHT_LAYERS, Asked::push, NONE);
        Asked x = layers(7);
        Due.is("3: the eighth", x.push(), 8);
        Due.is("3: a ninth", x.push(), NONE);
        Due.is("3: a tenth", x.push(), NONE);
        Due.is("3: eight layers", x.count(1), 8);
        Due.is("2: a row in the eighth", x.row(1, 1, 1, 1, 1, 1), 0);
        Due.is("4: the eighth goes", x.pop(), 1);
        Due.is("3: seven layers", x.count(1), 7);
    }

    /** "there are 8": layers that went are not counted. */
    private static void pushComesAgainWhenOneWent() {
        Asked x = layers(8);
        Due.is("4: one goes", x.pop(), 0);
        Due.is("3: the eighth again", x.push(), 8);
        Due.is("3: full again", x.push(), NONE);
    }

    /** Terms: "LAYERS .. begin where they are told to": before all rows, between them, and behind the last. */
    private static void layersBeginWhereTheyAreTold() {
        Asked x = new Asked();
        Due.is("3: before all rows", x.push(), 1);
        fillRows(x, 0, 7);
        Due.is("3: between", x.push(), 2);
        Due.is("3: between, again", x.push(), 3);
        fillRows(x, 7, 16);
        Due.is("3: behind the sixteenth", x.push(), 4);
        Due.is("4: none since then", x.pop(), 0);
        Due.is("4: rows stay", x.count(0), 16);
        Due.is("4: those behind the seventh", x.pop(), 9);
        Due.is("4: rows", x.count(0), 7);
        Due.is("4: none between two layers", x.pop(), 0);
        Due.is("4: rows", x.count(0), 7);
        Due.is("4: all", x.pop(), 7);
        Due.is("4: no rows", x.count(0), 0);
        Due.is("4: no layers", x.count(1), 0);
    }

    /** Promise 4: "The latest layer goes, and all rows that came since it began: how many these were." */
    private static void popHowManyRowsTheseWere() {
        Asked x = rows(3);
        x.push();
        fillRows(x, 3, 4);
        x.push();
        fillRows(x, 4, 6);
        Due.is("4: two rows", x.pop(), 2);
        Due.is("4: one layer", x.count(1), 1);
        Due.is("4: four rows", x.count(0), 4);
        Edge.rowIs(x, 3, 1, 3, 0, 0, 0, 50);
        Due.is("4: the fifth is gone", x.ofRow(4, 0), Due.NO_INT);
        Due.is("4: it can't be assumed", x.assume(4, false), NONE);
        fillRows(x, 4, 5);
        Due.is("4: the layer before has gone on", x.pop(), 2);
        Due.is("4: three rows", x.count(0), 3);
        Due.is("4: no layer", x.count(1), 0);
    }

    /** Promise 4, a layer in which no row came. */
    private static void popOfALayerWithoutRows() {
        Asked x = layers(1);
        Due.is("4: no rows at all", x.pop(), 0);
        Due.is("4: no layer", x.count(1), 0);
        x = rows(16);
        x.push();
        Due.is("4: behind sixteen rows", x.pop(), 0);
        Due.is("4: no layer", x.count(1), 0);
        Due.is("4: sixteen rows", x.count(0), 16);
        Edge.rowIs(x, 15, 1, 15, 0, 0, 0, 50);
    }

    /** Promise 4, a layer in which all sixteen rows came. */
    private static void popOfALayerWithAllRows() {
        Asked x = layers(1);
        fillRows(x, 0, 16);
        Due.is("4: all sixteen", x.pop(), 16);
        Due.is("4: no rows", x.count(0), 0);
        Due.is("4: row 0 is gone", x.ofRow(0, 0), Due.NO_INT);
        Due.is("8: all numbers do", x.solutions(), 31 * 31 * 31 * 31);
        Due.is("2: the first row again", x.row(1, 0, 0, 0, 0, 0), 0);
    }

    /** Promise 4: "NONE: there is none." */
    private static void popNoneThereIsNone() {
        Edge.refused("4: a new object", State.NEW, Asked::pop, NONE);
        Edge.refused("4: rows without a layer", () -> rows(16), Asked::pop, NONE);
        Edge.refused("4: a log without a layer", RowEdgesTest::wholeWithoutALayer, Asked::pop, NONE);
        Edge.refused("4: each layer went", RowEdgesTest::eightLayersWent, Asked::pop, NONE);
        Asked x = rows(2);
        x.push();
        Due.is("4: the one layer", x.pop(), 0);
        Due.is("4: none any more", x.pop(), NONE);
        Due.is("4: no layers", x.count(1), 0);
        Due.is("4: rows before the first layer stay", x.count(0), 2);
    }

    /** Promise 5: "Integer.MIN_VALUE: none such", of the row. */
    private static void ofRowNoneSuchRow() {
        Asked x = rows(16);
        Due.is("5: the first", x.ofRow(0, 1), 0);
        Due.is("5: the last", x.ofRow(15, 1), 15);
        // 6 times 715827883 and 8 times 1073741824 are small numbers when the upper bits are lost.
        for (int wrong : new int[] {-1, 16, 17, 715827883, 1073741824, Edge.BIG, Edge.SMALL}) {
            for (int what = 0; what < 6; what++) {
                Due.is("5: row " + wrong, x.ofRow(wrong, what), Due.NO_INT);
            }
            Edge.refusedAlways("5: row " + wrong, y -> y.ofRow(wrong, 0), Due.NO_INT);
        }
        for (int many = 0; many < 16; many++) {
            Asked y = rows(many);
            Due.is("5: the last of " + many, y.ofRow(many - 1, 5), many == 0 ? Due.NO_INT : 50);
            Due.is("5: behind the last of " + many, y.ofRow(many, 5), Due.NO_INT);
        }
    }

    /** Promise 5: "what = 0 its kind, 1 to 4 its numbers, 5 its bound. Integer.MIN_VALUE: none such." */
    private static void ofRowNoneSuchWhat() {
        Asked x = new Asked();
        x.row(0, 11, 12, 13, 14, 15);
        x.row(1, 21, 22, 23, 24, 25);
        x.row(0, 31, 32, 33, 34, 35);
        Edge.rowIs(x, 1, 1, 21, 22, 23, 24, 25);
        for (int wrong : new int[] {-1, 6, 7, -6, 256, Edge.BIG, Edge.SMALL}) {
            for (int i = 0; i < 3; i++) {
                Due.is("5: what " + wrong + " of row " + i, x.ofRow(i, wrong), Due.NO_INT);
            }
            Edge.refusedAlways("5: what " + wrong, y -> y.ofRow(0, wrong), Due.NO_INT);
        }
    }

    /** Promise 5, a row that came and went. */
    private static void ofRowOfARowThatWent() {
        Asked x = rows(15);
        x.push();
        fillRows(x, 15, 16);
        Due.is("5: it is there", x.ofRow(15, 1), 15);
        x.pop();
        for (int what = 0; what < 6; what++) {
            Due.is("5: it went", x.ofRow(15, what), Due.NO_INT);
        }
        Due.is("5: the one before stays", x.ofRow(14, 1), 14);
    }

    /** Terms: "Each change of rows (also opening a layer, or dropping one) makes the log empty (not whole, no splits)." */
    private static void eachChangeOfRowsMakesTheLogEmpty() {
        for (State state : State.values()) {
            if (state != State.SIXTEEN_ROWS) {
                Asked x = state.make();
                x.row(1, 0, 0, 0, 0, 0);
                logIsEmpty("a row in " + state, x);
            }
            if (state != State.EIGHT_LAYERS) {
                Asked x = state.make();
                x.push();
                logIsEmpty("a layer in " + state, x);
            }
        }
        for (State state : WITH_LAYERS) {
            Asked x = state.make();
            x.pop();
            logIsEmpty("a layer that goes in " + state, x);
        }
        Asked x = layers(1);
        x.bound(0, false);
        x.split(0, 0);
        Due.is("4: a layer without rows", x.pop(), 0);
        logIsEmpty("a layer without rows", x);
    }

    /** Terms: "Each change of rows": a call that is refused is none. */
    private static void aRefusedChangeLeavesTheLog() {
        for (State state : State.values()) {
            Asked x = state.make();
            int[] before = {x.lines(), x.count(2), x.count(3), x.count(4)};
            x.row(-1, 0, 0, 0, 0, 0);
            x.row(1, 0, 0, 0, 100, 0);
            x.row(0, 0, 0, 0, 0, -10000);
            Edge.logIs("a refused row in " + state, x, before[0], before[1], before[2], before[3]);
        }
        Asked x = State.EIGHT_LAYERS.make();
        x.push();
        Edge.logIs("a refused layer", x, 2, 0, 0, 0);
        x = wholeWithoutALayer();
        x.pop();
        Edge.logIs("a refused dropping", x, 2, 1, 0, 3);
    }

    private static void logIsEmpty(String what, Asked x) {
        Edge.logIs(what, x, 0, 0, 0, 0);
        Due.is(what + ", no closing", x.close(0), NONE);
        Due.is(what + ", it is not whole: a line comes", x.bound(3, true), 0);
        Edge.lineIs(x, 0, 0, 0, 0, -1, 15);
        Due.is(what + ", a split comes", x.split(2, 1), 1);
        Edge.splitIs(x, 0, 2, 1, 1, 1);
    }

    private static int rowOf(Asked x, int... r) {
        return x.row(r[0], r[1], r[2], r[3], r[4], r[5]);
    }

    private static void fillRows(Asked x, int from, int to) {
        for (int i = from; i < to; i++) {
            Due.is("2: row " + i, x.row(1, i, 0, 0, 0, 50), i);
        }
    }

    private static Asked rows(int many) {
        Asked x = new Asked();
        fillRows(x, 0, many);
        return x;
    }

    private static Asked layers(int many) {
        Asked x = new Asked();
        for (int i = 1; i <= many; i++) {
            Due.is("3: layer " + i, x.push(), i);
        }
        return x;
    }

    private static Asked eightLayersWent() {
        Asked x = rows(2);
        for (int i = 0; i < 8; i++) {
            x.push();
        }
        for (int i = 0; i < 8; i++) {
            x.pop();
        }
        return x;
    }

    /** Two lines and three closings. */
    private static Asked wholeWithoutALayer() {
        Asked x = new Asked();
        x.row(1, 0, 0, 0, 0, -1);
        x.assume(0, false);
        x.bound(2, false);
        x.split(0, 1);
        x.split(0, 0);
        x.close(0);
        x.close(0);
        x.close(0);
        return x;
    }
}
