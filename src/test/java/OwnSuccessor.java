/** A run of calls, found by search, after which member 22 is the first live one of its own list. */
final class OwnSuccessor {
    static final int MEMBER = 22;

    private static final int DEPTH = 0;
    private static final int FOUND = 1;
    private static final int OPEN = 2;
    private static final int JOIN = 3;
    private static final int FAIL = 4;
    private static final int STABILISE = 5;

    static final int[][] CALLS = {
        {DEPTH, 4}, {FOUND, 33}, {FOUND, 6}, {FOUND, 1}, {FOUND, 14}, {FOUND, 10}, {OPEN},
        {JOIN, 22, 6}, {FAIL, 14}, {STABILISE, 22}, {STABILISE, 10}, {JOIN, 0, 33}, {FAIL, 6},
        {JOIN, 20, 22}, {FAIL, 33}, {STABILISE, 1}, {JOIN, 34, 22}, {STABILISE, 0}, {STABILISE, 22},
        {JOIN, 26, 22}, {FAIL, 10}, {FAIL, 1}, {JOIN, 38, 34}, {STABILISE, 38}, {STABILISE, 34},
        {STABILISE, 0}, {STABILISE, 38}, {STABILISE, 22}, {STABILISE, 22}, {FAIL, 34}, {JOIN, 30, 0},
        {FAIL, 38},
    };

    private OwnSuccessor() {
    }

    static String written(int[] c) {
        String[] names = {"depth", "found", "open", "join", "fail", "stabilise"};
        return names[c[0]] + "(" + (c.length > 1 ? c[1] : "") + (c.length > 2 ? ", " + c[2] : "") + ")";
    }

    static int call(KeyRing ring, int[] c) {
        switch (c[0]) {
            case DEPTH:
                return ring.depth(c[1]);
            case FOUND:
                return ring.found(c[1]);
            case OPEN:
                return ring.open();
            case JOIN:
                return ring.join(c[1], c[2]);
            case FAIL:
                return ring.fail(c[1]);
            default:
                return ring.stabilise(c[1]);
        }
    }

    static int call(PlainRing ring, int[] c) {
        switch (c[0]) {
            case DEPTH:
                return ring.depth(c[1]);
            case FOUND:
                return ring.found(c[1]);
            case OPEN:
                return ring.open();
            case JOIN:
                return ring.join(c[1], c[2]);
            case FAIL:
                return ring.fail(c[1]);
            default:
                return ring.stabilise(c[1]);
        }
    }
}
