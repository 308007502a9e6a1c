/** Objects to try an edge on: new, full in each way that the document knows, with an open log, and with a whole one. */
enum State implements Start {
    NEW {
        @Override
        public Asked make() {
            return new Asked();
        }
    },
    /** One row before the first layer, an empty layer, and one that began when there were 16. */
    SIXTEEN_ROWS {
        @Override
        public Asked make() {
            Asked x = new Asked();
            x.row(0, 1, 0, 0, 0, 4);
            x.push();
            x.push();
            for (int i = 1; i < 16; i++) {
                x.row(1, i, -i, 2, 1, 300 + i);
            }
            x.push();
            x.bound(0, false);
            x.split(1, 2);
            x.assume(15, false);
            return x;
        }
    },
    EIGHT_LAYERS {
        @Override
        public Asked make() {
            Asked x = new Asked();
            x.row(0, 0, 2, 2, 0, 6);
            for (int i = 0; i < 8; i++) {
                x.push();
                x.row(1, 1, 0, 0, i, 90 - i);
            }
            x.assume(0, true);
            x.bound(2, true);
            return x;
        }
    },
    /** Row 0 is "0 is -1": its line closes. A case two is open (lines 1, 2), in it a case one (lines 3, 4). */
    OPEN_LOG {
        @Override
        public Asked make() {
            Asked x = impossible();
            x.bound(0, false);
            x.split(0, 3);
            x.assume(0, false);
            x.close(2);
            x.bound(1, false);
            x.split(1, -4);
            x.assume(0, false);
            return x;
        }
    },
    /** The rows have solutions. */
    OPEN_LOG_SOLVED {
        @Override
        public Asked make() {
            Asked x = new Asked();
            x.push();
            x.row(0, 1, 1, 0, 0, 29);
            x.assume(0, false);
            x.split(0, 14);
            x.bound(1, false);
            return x;
        }
    },
    TWO_HUNDRED_LINES {
        @Override
        public Asked make() {
            Asked x = impossible();
            x.assume(0, false);
            x.bound(0, true);
            x.split(2, 5);
            x.split(3, -6);
            fill(x, 4, 200);
            return x;
        }
    },
    TEN_SPLITS {
        @Override
        public Asked make() {
            Asked x = impossible();
            x.assume(0, false);
            for (int i = 0; i < 10; i++) {
                x.split(i % 4, i - 5);
            }
            return x;
        }
    },
    WHOLE_BY_CLOSE {
        @Override
        public Asked make() {
            Asked x = impossible();
            x.bound(3, false);
            x.assume(0, false);
            x.close(1);
            return x;
        }
    },
    WHOLE_BY_FINISH {
        @Override
        public Asked make() {
            Asked x = impossible();
            x.assume(0, false);
            x.bound(3, false);
            x.bound(3, true);
            x.split(0, 0);
            x.finish();
            return x;
        }
    };

    /** A layer with the row "0 is -1" and a row of kind 1. */
    static Asked impossible() {
        Asked x = new Asked();
        x.push();
        x.row(0, 0, 0, 0, 0, -1);
        x.row(1, 1, -2, 3, -4, 5);
        return x;
    }

    static void fill(Asked x, int from, int to) {
        for (int i = from; i < to; i++) {
            x.bound(i % 4, i % 3 == 0);
        }
    }
}
