/**
 * "An object is used for at most 512 calls after it has been made": each call of the face as often as that
 * lets it be made, taken and refused, and the answers are due up to the 512th.
 */
public final class ManyCallsTest {
    /** Makes calls of one sort, the i-th time; one of them at least. */
    private interface Step {
        void on(Both b, int i);
    }

    public static void main(String[] args) {
        Due.watch();
        rowsAndLayers();
        rowsThatAreAskedFor();
        solutionsThatAreAskedFor();
        linesOfEachSort();
        splitsThatAreOpened();
        closingsInOneLog();
        logsThatAreClosed();
        logsThatAreFinished();
        theLogThatIsAskedFor();
        callsThatAreRefused();
        Due.end();
    }

    /** Makes the steps until the object was asked 512 times; a step has at most so many calls. */
    private static void upTo512(Both b, int callsOfAStep, Step step) {
        for (int i = 0; b.left() >= callsOfAStep; i++) {
            step.on(b, i);
        }
        for (int what = 0; b.left() > 0; what++) {
            b.count(what % 5);
        }
    }

    /** In turn, so that the log is empty and there is always room for a layer. */
    private static void layerComesOrGoes(Both b, int i) {
        if (i % 2 == 0) {
            b.push();
        } else {
            b.pop();
        }
    }

    private static Both impossible(String name) {
        Both b = new Both(name);
        b.row(0, 0, 0, 0, 0, -1);
        b.row(1, 1, -2, 3, -4, 5);
        return b;
    }

    private static void rowsAndLayers() {
        upTo512(new Both("layers come and go"), 2, (b, i) -> {
            b.push();
            b.pop();
        });
        upTo512(new Both("layers come, as many go"), 18, (b, i) -> {
            for (int k = 0; k < 9; k++) {
                b.push();
            }
            for (int k = 0; k < 9; k++) {
                b.pop();
            }
        });
        upTo512(new Both("rows come and go"), 18, (b, i) -> {
            b.push();
            for (int r = 0; r < 16; r++) {
                b.row(r % 2, r - i, i, -r, 2 * r, 100 * i - r);
            }
            b.pop();
        });
        upTo512(new Both("a row comes and goes, and is asked for"), 5, (b, i) -> {
            b.push();
            b.row(i % 2, i % 3 - 1, 1, 0, 0, i % 40 - 20);
            b.solutions();
            b.first(1);
            b.pop();
        });
    }

    private static void rowsThatAreAskedFor() {
        Both b = new Both("ofRow");
        for (int r = 0; r < 16; r++) {
            b.row(r % 2, r, -r, 99 - r, r - 99, 9999 - r);
        }
        upTo512(b, 1, (y, i) -> y.ofRow(i % 18 - 1, i % 8 - 1));
    }

    private static Both someSolutions(String name) {
        Both b = new Both(name);
        b.row(0, 1, 1, 0, 0, 22);
        b.row(1, 0, 1, -1, 2, -9);
        return b;
    }

    private static void solutionsThatAreAskedFor() {
        upTo512(someSolutions("decide"), 1, (b, i) -> b.decide());
        upTo512(someSolutions("first"), 1, (b, i) -> b.first(i % 6 - 1));
        upTo512(someSolutions("solutions"), 1, (b, i) -> b.solutions());
        upTo512(someSolutions("range"), 1, (b, i) -> b.range(i % 6 - 1, i % 4 < 2));
        upTo512(impossible("decide, none"), 1, (b, i) -> b.decide());
        upTo512(impossible("first, none"), 1, (b, i) -> b.first(i % 4));
        upTo512(impossible("solutions, none"), 1, (b, i) -> b.solutions());
        upTo512(impossible("range, none"), 1, (b, i) -> b.range(i % 4, i % 8 < 4));
    }

    /** A log has 200 lines: a layer that comes or goes makes room for the next. */
    private static void makeRoom(Both b, int i) {
        if (i % 201 == 200) {
            layerComesOrGoes(b, i / 201);
            b.bound(0, false);
            b.bound(1, true);
        }
    }

    private static Both twoLines(String name) {
        Both b = impossible(name);
        b.bound(0, false);
        b.bound(1, true);
        return b;
    }

    private static void linesOfEachSort() {
        upTo512(impossible("assume"), 4, (b, i) -> {
            makeRoom(b, i);
            b.assume(i % 2, i % 4 == 0);
        });
        upTo512(impossible("bound"), 4, (b, i) -> {
            makeRoom(b, i);
            b.bound(i % 4, i % 8 < 4);
        });
        upTo512(twoLines("add"), 4, (b, i) -> {
            makeRoom(b, i);
            b.add(i % 2, i % 1001, 1, i % 7);
        });
        upTo512(twoLines("divide"), 4, (b, i) -> {
            makeRoom(b, i);
            b.divide(i % 2, 1);
        });
        upTo512(twoLines("add, and the line"), 5, (b, i) -> {
            makeRoom(b, i);
            int line = b.add(0, i % 1001, 1, 1000 - i % 1001);
            b.line(line, i % 5);
        });
    }

    private static void splitsThatAreOpened() {
        upTo512(new Both("split, ten and then a layer"), 11, (b, i) -> {
            for (int k = 0; k < 10; k++) {
                b.split((i + k) % 4, (i * k) % 32 - 16);
            }
            layerComesOrGoes(b, i);
        });
    }

    /** 254 splits and 255 closings make one log whole, and are as many as 512 calls have room for. */
    private static void closingsInOneLog() {
        Both b = new Both("closings in one log");
        b.row(1, 0, 0, 0, 0, -1);
        b.assume(0, false);
        closeByCases(b, 8);
        Due.is("all but one of the calls", b.left(), 1);
        Due.is("20: closings", b.count(4), 255);
    }

    /** Cases so deep; the last branch of all is one less deep, for want of calls. */
    private static void closeByCases(Both b, int depth) {
        if (depth == 0 || b.left() == 2) {
            b.close(0);
            return;
        }
        b.split(depth % 4, depth);
        closeByCases(b, depth - 1);
        closeByCases(b, depth - 1);
    }

    private static void logsThatAreClosed() {
        Both b = new Both("a log is closed, and a layer makes it empty");
        b.row(0, 0, 0, 0, 0, 1);
        upTo512(b, 3, (y, i) -> {
            y.close(y.assume(0, true));
            layerComesOrGoes(y, i);
        });
    }

    private static void logsThatAreFinished() {
        upTo512(someSolutions("finish, there is a solution"), 1, (b, i) -> b.finish());
        upTo512(impossible("finish of a whole log"), 1, (b, i) -> b.finish());
        upTo512(impossible("finish, and a layer makes it empty"), 3, (b, i) -> {
            b.split(i % 4, i % 32 - 16);
            b.finish();
            layerComesOrGoes(b, i);
        });
    }

    private static void theLogThatIsAskedFor() {
        upTo512(twoLines("lines"), 1, (b, i) -> b.lines());
        upTo512(twoLines("line"), 1, (b, i) -> b.line(i % 4 - 1, i % 7 - 1));
        Both b = twoLines("ofSplit");
        b.split(2, 3);
        b.split(3, -4);
        upTo512(b, 1, (y, i) -> y.ofSplit(i % 4 - 1, i % 6 - 1));
        upTo512(twoLines("count"), 1, (y, i) -> y.count(i % 7 - 1));
    }

    /** A call that is refused over and over; behind it the object is as before. */
    private static void callsThatAreRefused() {
        refused("row", (b, i) -> b.row(2, 0, 0, 0, 0, 0));
        refused("row, a number", (b, i) -> b.row(1, 0, 0, 100, 0, 0));
        refused("push", (b, i) -> b.push());
        refused("assume", (b, i) -> b.assume(1, true));
        refused("bound", (b, i) -> b.bound(4, false));
        refused("add", (b, i) -> b.add(0, 1001, 1, 1));
        refused("divide", (b, i) -> b.divide(0, 0));
        refused("split", (b, i) -> b.split(0, 16));
        refused("close", (b, i) -> b.close(0));
        refused("count", (b, i) -> b.count(5));
        upTo512(impossible("pop is refused"), 1, (b, i) -> b.pop());
    }

    private static void refused(String name, Step step) {
        Both b = impossible(name + " is refused");
        for (int i = 0; i < 8; i++) {
            b.push();
        }
        b.bound(0, false);
        b.bound(1, true);
        b.split(1, 2);
        b.assume(0, false);
        for (int i = 0; b.left() > 8; i++) {
            step.on(b, i);
        }
        b.lines();
        b.line(3, 4);
        b.count(0);
        b.count(3);
        b.close(3);
        b.finish();
        b.pop();
        b.row(1, 1, 1, 1, 1, 1);
    }
}
