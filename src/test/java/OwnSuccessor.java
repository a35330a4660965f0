/** Runs of calls, found by search, after which a member is the first live one of its own list. */
enum OwnSuccessor {
    /** Its predecessor, 0, is live. */
    WITH_PREDECESSOR(22, "depth 4, found 33, found 6, found 1, found 14, found 10, open, join 22 6, fail 14, "
            + "stabilise 22, stabilise 10, join 0 33, fail 6, join 20 22, fail 33, stabilise 1, join 34 22, "
            + "stabilise 0, stabilise 22, join 26 22, fail 10, fail 1, join 38 34, stabilise 38, stabilise 34, "
            + "stabilise 0, stabilise 38, stabilise 22, stabilise 22, fail 34, join 30 0, fail 38"),

    /** Its predecessor failed. */
    WITHOUT_PREDECESSOR(9, "depth 4, found 23, found 2, found 11, found 8, found 15, open, join 27 2, fail 15, "
            + "join 9 11, fail 8, stabilise 27, stabilise 23, join 26 9, stabilise 9, stabilise 2, fail 23, "
            + "join 20 11, fail 11, stabilise 27, stabilise 9, join 25 20, fail 2, stabilise 25, stabilise 20, "
            + "stabilise 27, join 24 9, stabilise 25, stabilise 9, stabilise 9, join 7 25, stabilise 7, fail 25, "
            + "join 0 9, fail 20, fail 7"),

    /** No other one of its list is live, and all others can do without it. */
    ALONE_IN_ITS_LIST(9, "depth 4, found 23, found 2, found 11, found 8, found 15, open, join 27 8, fail 23, "
            + "join 9 8, fail 8, stabilise 9, stabilise 2, join 20 27, fail 11, join 0 15, fail 15, join 25 0, "
            + "stabilise 27, stabilise 9, fail 2, join 39 0, join 5 9, stabilise 25, stabilise 20, join 24 9, "
            + "stabilise 0, stabilise 27, stabilise 25, stabilise 5, stabilise 25, join 34 24, stabilise 9, "
            + "stabilise 9, fail 20, fail 5, fail 25, stabilise 9");

    final int member;
    final String[] calls;

    OwnSuccessor(int member, String run) {
        this.member = member;
        calls = run.split(", ");
    }

    KeyRing ring() {
        KeyRing x = new KeyRing();
        for (String call : calls) {
            Calls.answer(x, call);
        }
        return x;
    }
}
