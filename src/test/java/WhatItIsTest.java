import java.util.Random;

/**
 * The document's first lines and its terms, by what they say of the promises together: the rows' answers
 * agree with each other, a log proves that rows can't hold together and proves it of no rows that can,
 * and the search closes what is left open.
 */
public final class WhatItIsTest {
    private static final int SETS = 240;
    private static final int NONE = BoxProver.NONE;

    private static int proved = 0;
    private static int givenUp = 0;
    private static int solvable = 0;
    private static int divisions = 0;
    private static int mostClosings = 0;

    public static void main(String[] args) {
        Due.watch();
        for (int seed = 0; seed < SETS; seed++) {
            int[][] rows = seed % 3 == 0 ? evenSums(new Random(seed)) : rowsOf(new Random(seed));
            theAnswersAgree(seed, rows);
            theLogProvesThatTheyCant(seed, rows);
        }
        // The sets above would show little if they were all of one sort.
        Due.is("sets that were proved not to hold", proved >= 40, true);
        Due.is("sets that were left to finish()", givenUp >= 10, true);
        Due.is("sets with a solution", solvable >= 40, true);
        Due.is("divisions", divisions >= 500, true);
        Due.is("closings in one proof", mostClosings >= 10, true);
        noRowsNothingToProve();
        rowsThatHoldAreNotProvedNotTo();
        theSameCallsTheSameAnswers();
        Due.end();
    }

    /** Bounds near the sums that the words make, so that about half of the sets have no solution. */
    private static int[][] rowsOf(Random random) {
        int width = 2 + random.nextInt(12);
        int[][] rows = new int[2 + random.nextInt(5)][6];
        for (int[] row : rows) {
            row[0] = random.nextInt(3) == 0 ? 0 : 1;
            int sum = 0;
            for (int w = 0; w < 4; w++) {
                row[1 + w] = random.nextInt(2 * width + 1) - width;
                sum += row[1 + w] * (random.nextInt(31) - 15);
            }
            row[5] = row[0] == 0 ? sum : sum - random.nextInt(12 * width);
        }
        return rows;
    }

    /** Each word has two values or three, and even numbers are to make a sum that is odd now and then: that takes cases. */
    private static int[][] evenSums(Random random) {
        int[][] rows = new int[9][6];
        int sum = 0;
        for (int w = 0; w < 4; w++) {
            int least = random.nextInt(29) - 15;
            int width = 1 + random.nextInt(w == 0 ? 2 : 1);
            rows[2 * w] = new int[] {1, 0, 0, 0, 0, least + width};
            rows[2 * w][1 + w] = 1;
            rows[2 * w + 1] = new int[] {1, 0, 0, 0, 0, -least};
            rows[2 * w + 1][1 + w] = -1;
            rows[8][1 + w] = 2 * (random.nextInt(4) + 1);
            sum += rows[8][1 + w] * (least + random.nextInt(width + 1));
        }
        rows[8][5] = sum + random.nextInt(3) - 1;
        return rows;
    }

    private static Asked with(int[][] rows) {
        Asked x = new Asked();
        for (int i = 0; i < rows.length; i++) {
            int[] r = rows[i];
            if (i % 3 == 1) {
                x.push();
            }
            Due.is("2: row " + i, x.row(r[0], r[1], r[2], r[3], r[4], r[5]), i);
        }
        return x;
    }

    private static boolean canHold(int[][] rows) {
        PlainModel model = new PlainModel();
        for (int[] row : rows) {
            model.row(row);
        }
        return model.decide();
    }

    /** "Rows .. that are to hold together ..; whether they can, by which numbers": four promises of one thing. */
    private static void theAnswersAgree(int seed, int[][] rows) {
        String name = "set " + seed + ": ";
        boolean can = canHold(rows);
        Asked x = with(rows);
        Due.is(name + "decide()", x.decide(), can);
        Due.is(name + "solutions()", x.solutions() > 0, can);
        int[] first = new int[4];
        for (int w = 0; w < 4; w++) {
            first[w] = x.first(w);
            int least = x.range(w, false);
            int most = x.range(w, true);
            Due.is(name + "first(" + w + ")", first[w] != -100, can);
            Due.is(name + "least, first, most of word " + w, least <= first[w] && first[w] <= most, true);
            Due.is(name + "a word's value", can ? least >= -15 && most <= 15 : least == -100 && most == -100, true);
        }
        Due.is(name + "the first has the least x0", first[0], x.range(0, false));
        for (int[] row : rows) {
            int sum = row[1] * first[0] + row[2] * first[1] + row[3] * first[2] + row[4] * first[3];
            Due.is(name + "the row holds", !can || (row[0] == 0 ? sum == row[5] : sum <= row[5]), true);
        }
        Due.is(name + "finish()", x.finish(), can ? 0 : 1);
        Due.is(name + "whole", x.count(2), can ? 0 : 1);
    }

    /** "a log that proves that they can't: lines .. and by cases ..; what is left open is closed by a search of its own". */
    private static void theLogProvesThatTheyCant(int seed, int[][] rows) {
        String name = "set " + seed + ": ";
        boolean can = canHold(rows);
        Asked x = with(rows);
        CaseProof proof = new CaseProof(x, rows, seed % 2 == 0);
        boolean whole = proof.go();
        Due.is(name + "rows that can hold are not proved not to", whole && can, false);
        Due.is(name + "whole", x.count(2), whole ? 1 : 0);
        Due.is(name + "closings", x.count(4), proof.closings());
        Due.is(name + "open splits", x.count(3), whole ? 0 : proof.splits());
        int lines = x.lines();
        int splits = x.count(3);
        if (splits > 0) {
            Due.is(name + "lines before the outermost split", x.ofSplit(0, 3), proof.outside());
        }
        Due.is(name + "finish()", x.finish(), whole ? NONE : can ? 0 : 1);
        Due.is(name + "whole then", x.count(2), can ? 0 : 1);
        Due.is(name + "splits then", x.count(3), can ? splits : 0);
        Due.is(name + "lines then", x.lines(), whole || can || splits == 0 ? lines : proof.outside());
        Due.is(name + "closings then", x.count(4), proof.closings());
        divisions += proof.divisions();
        mostClosings = Math.max(mostClosings, proof.closings());
        solvable += can ? 1 : 0;
        proved += whole ? 1 : 0;
        givenUp += whole || can ? 0 : 1;
    }

    /** Without rows every value holds: no log of it can be made whole. */
    private static void noRowsNothingToProve() {
        Asked x = new Asked();
        Due.is("no rows: all hold", x.decide(), true);
        Due.is("no rows: finish()", x.finish(), 0);
        Due.is("no rows: no proof", new CaseProof(x, new int[0][], false).go(), false);
        Due.is("no rows: not whole", x.count(2), 0);
        Due.is("no rows: no closing", x.count(4), 0);
        Due.is("no rows: finish() of the open log", x.finish(), 0);
    }

    /** One solution alone, at the corner: all around it is closed by cases, it is not; one further, all is closed. */
    private static void rowsThatHoldAreNotProvedNotTo() {
        int[][] corner = {{1, -1, -1, -1, -1, -60}};
        Asked x = with(corner);
        Due.is("the corner: no proof", new CaseProof(x, corner, false).go(), false);
        Due.is("the corner: not whole", x.count(2), 0);
        Due.is("the corner: finish()", x.finish(), 0);
        int[][] beyond = {{1, -1, -1, -1, -1, -61}};
        x = with(beyond);
        Due.is("beyond it: a proof", new CaseProof(x, beyond, false).go(), true);
        Due.is("beyond it: whole", x.count(2), 1);
        Due.is("beyond it: finish()", x.finish(), NONE);
    }

    /** Two objects, their calls in turn: what one is told, the other does not know. */
    private static void theSameCallsTheSameAnswers() {
        for (State state : State.values()) {
            Asked x = state.make();
            Asked between = State.OPEN_LOG.make();
            Asked y = state.make();
            between.push();
            between.row(0, 1, 1, 1, 1, 7);
            between.solutions();
            for (int part = 0; part < 2; part++) {
                Due.is("the same in " + state, View.part(x, part).equals(View.part(y, part)), true);
            }
            Due.is("the same next in " + state, View.ofWhatComesNext(x).equals(View.ofWhatComesNext(y)), true);
        }
    }
}
