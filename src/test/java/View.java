/** All that an object shows by calls that only ask; in parts, so that an object is not asked too often. */
final class View {
    private static final int LINES_A_PART = 23;
    private static final int MOST_LINES = 200;
    /** One part of answers and splits, one of rows, and the lines -1 .. 200. */
    static final int PARTS = 2 + (MOST_LINES + 2 + LINES_A_PART - 1) / LINES_A_PART;

    private final StringBuilder text = new StringBuilder();

    private View() {
    }

    static String part(Asked x, int part) {
        View view = new View();
        if (part == 0) {
            view.answers(x);
            view.splits(x);
        } else if (part == 1) {
            view.rows(x);
        } else {
            view.lines(x, (part - 2) * LINES_A_PART - 1);
        }
        return view.text.toString();
    }

    /** What calls that change something answer from here on, one after the other. */
    static String ofWhatComesNext(Asked x) {
        View view = new View();
        view.nextLines(x);
        view.nextRows(x);
        return view.text.toString();
    }

    private void note(String name, long answer) {
        text.append(name).append('=').append(answer).append(' ');
    }

    private void answers(Asked x) {
        for (int what = -1; what <= 5; what++) {
            note("count(" + what + ")", x.count(what));
        }
        note("lines()", x.lines());
        note("decide()", x.decide() ? 1 : 0);
        note("solutions()", x.solutions());
        for (int word = -1; word <= 4; word++) {
            note("first(" + word + ")", x.first(word));
            note("range(" + word + ", false)", x.range(word, false));
            note("range(" + word + ", true)", x.range(word, true));
        }
    }

    private void splits(Asked x) {
        for (int k = -1; k <= 10; k++) {
            for (int what = 0; what < 4; what++) {
                note("ofSplit(" + k + ", " + what + ")", x.ofSplit(k, what));
            }
        }
    }

    private void rows(Asked x) {
        for (int i = -1; i <= 16; i++) {
            for (int what = 0; what < 6; what++) {
                note("ofRow(" + i + ", " + what + ")", x.ofRow(i, what));
            }
        }
    }

    private void lines(Asked x, int from) {
        for (int i = from; i < from + LINES_A_PART && i <= MOST_LINES; i++) {
            line(x, i);
        }
    }

    private void line(Asked x, int i) {
        for (int what = 0; what < 5; what++) {
            note("line(" + i + ", " + what + ")", x.line(i, what));
        }
    }

    private void nextLines(Asked x) {
        note("bound(1, true)", x.bound(1, true));
        line(x, x.lines() - 1);
        note("split(2, -3)", x.split(2, -3));
        line(x, x.lines() - 1);
        note("assume(0, false)", x.assume(0, false));
        note("close()", x.close(x.lines() - 1));
        note("lines()", x.lines());
        line(x, x.lines() - 1);
        note("count(4)", x.count(4));
        note("finish()", x.finish());
        note("lines()", x.lines());
        note("count(2)", x.count(2));
        note("count(3)", x.count(3));
    }

    private void nextRows(Asked x) {
        note("row", x.row(1, 1, 2, 3, 4, 5));
        note("solutions()", x.solutions());
        for (int i = 0; i < 9; i++) {
            note("pop()", x.pop());
            note("count(0)", x.count(0));
        }
        note("push()", x.push());
        note("row", x.row(0, 5, 4, 3, 2, 1));
        note("first(3)", x.first(3));
    }
}
