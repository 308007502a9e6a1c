import java.util.EnumSet;
import java.util.Set;

/** Calls at the edge of what is taken: the answers, and what other calls show before and behind them. */
final class Edge {
    static final int BIG = Integer.MAX_VALUE;
    static final int SMALL = Integer.MIN_VALUE;

    interface Call {
        long on(Asked x);
    }

    private Edge() {
    }

    /** The call is refused with this answer: a refused call changes nothing. */
    static void refused(String sentence, Start start, Call call, long answer) {
        leavesAll(sentence, start, call, answer);
    }

    /** The call answers so in this state, and nothing is changed by it, neither what shows nor what comes. */
    static void leavesAll(String sentence, Start start, Call call, long answer) {
        for (int part = 0; part < View.PARTS; part++) {
            Asked x = start.make();
            String before = View.part(x, part);
            Due.is(sentence, call.on(x), answer);
            same(sentence + ", what shows behind it", View.part(x, part), before);
        }
        Asked x = start.make();
        call.on(x);
        same(sentence + ", what comes next", View.ofWhatComesNext(x), View.ofWhatComesNext(start.make()));
    }

    static void refusedIn(Set<State> states, String sentence, Call call, long answer) {
        for (State state : states) {
            refused(sentence + " (" + state + ")", state, call, answer);
        }
    }

    static void refusedAlways(String sentence, Call call, long answer) {
        refusedIn(EnumSet.allOf(State.class), sentence, call, answer);
    }

    static void rowIs(Asked x, int i, int... want) {
        for (int what = 0; what < 6; what++) {
            Due.is("5: ofRow(" + i + ", " + what + ")", x.ofRow(i, what), want[what]);
        }
    }

    static void lineIs(Asked x, int i, long... want) {
        for (int what = 0; what < 5; what++) {
            Due.is("18: line(" + i + ", " + what + ")", x.line(i, what), want[what]);
        }
    }

    static void splitIs(Asked x, int k, int... want) {
        for (int what = 0; what < 4; what++) {
            Due.is("19: ofSplit(" + k + ", " + what + ")", x.ofSplit(k, what), want[what]);
        }
    }

    /** Lines, whether whole, open splits, closings. */
    static void logIs(String sentence, Asked x, int lines, int whole, int splits, int closings) {
        Due.is(sentence + ", lines()", x.lines(), lines);
        Due.is(sentence + ", count(2)", x.count(2), whole);
        Due.is(sentence + ", count(3)", x.count(3), splits);
        Due.is(sentence + ", count(4)", x.count(4), closings);
        Due.is(sentence + ", no line behind the last", x.line(lines, 0), Due.NO_LONG);
        Due.is(sentence + ", no split behind the last", x.ofSplit(splits, 0), Due.NO_INT);
    }

    private static void same(String what, String got, String want) {
        Due.is(what, got.equals(want), true);
        if (!got.equals(want)) {
            System.out.println("  got  " + got + "\n  want " + want);
        }
    }
}
