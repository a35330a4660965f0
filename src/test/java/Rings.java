/** Rings that tests begin with, and looks at what a ring holds. */
final class Rings {
    private Rings() {
    }

    static KeyRing of(int depth, int... points) {
        KeyRing x = new KeyRing();
        x.depth(depth);
        for (int p : points) {
            x.found(p);
        }
        x.open();
        return x;
    }

    static KeyRing four() {
        return of(2, 10, 80, 150, 220);
    }

    /** Eight members, 0 to 210. */
    static KeyRing eight() {
        return of(2, 0, 30, 60, 90, 120, 150, 180, 210);
    }

    /** Twenty members, 0 to 228. */
    static KeyRing twenty() {
        int[] points = new int[20];
        for (int i = 0; i < 20; i++) {
            points[i] = i * 12;
        }
        return of(2, points);
    }

    /** The new member comes between 80 and another; both neighbours get to know it. */
    static void joinAndTell(KeyRing x, int p) {
        x.join(p, 80);
        x.stabilise(p);
        x.stabilise(80);
    }

    static void dueList(String when, KeyRing x, int p, int... want) {
        for (int k = 0; k < want.length; k++) {
            Check.due(when + ": known(" + p + ", " + k + ")", x.known(p, k), want[k]);
        }
    }

    static void dueFingers(String when, KeyRing x, int p, int... want) {
        for (int k = 0; k < want.length; k++) {
            Check.due(when + ": known(" + p + ", 10 + " + k + ")", x.known(p, 10 + k), want[k]);
        }
    }

    static void duePair(String when, KeyRing x, int p, int key, int... want) {
        for (int what = 0; what < 3; what++) {
            Check.due(when + ": held(" + p + ", " + key + ", " + what + ")", x.held(p, key, what), want[what]);
        }
    }

    static void dueNoPair(String when, KeyRing x, int p, int key) {
        duePair(when, x, p, key, 0, KeyRing.NONE, KeyRing.NONE);
    }

    static void dueCounts(String when, KeyRing x, int... want) {
        for (int what = 0; what < want.length; what++) {
            Check.due(when + ": count(" + what + ")", x.count(what), want[what]);
        }
    }

    /** The hops of the latest look(), and none behind them. */
    static void dueHops(String when, KeyRing x, int... want) {
        Check.due(when + ": count(6)", x.count(6), want.length);
        for (int k = 0; k < want.length; k++) {
            Check.due(when + ": hop(" + k + ")", k < x.count(6) ? x.hop(k) : KeyRing.NONE, want[k]);
        }
        Check.none(when + ": hop(" + want.length + ")", () -> x.hop(want.length));
        Check.none(when + ": hop(-1)", () -> x.hop(-1));
    }

    /** What can be asked without changing anything, pairs of some keys alone: an object has 512 calls. */
    static String state(KeyRing x, int... keys) {
        StringBuilder all = new StringBuilder();
        all.append(x.ideal()).append(' ');
        for (int what = 0; what < 8; what++) {
            all.append(x.count(what)).append(' ');
        }
        int hops = x.count(6);
        for (int k = 0; k < hops; k++) {
            all.append(x.hop(k)).append(' ');
        }
        int p = x.owner(0);
        int live = x.count(0);
        for (int i = 0; i < live; i++) {
            tellMember(all, x, p, keys);
            p = x.owner((p + 1) % 256);
        }
        return all.toString();
    }

    private static void tellMember(StringBuilder all, KeyRing x, int p, int... keys) {
        all.append(p).append(": ");
        for (int k = -1; k < 18; k++) {
            if (k < 2 || k >= 10) {
                all.append(x.known(p, k)).append(' ');
            }
        }
        for (int key : keys) {
            for (int what = 0; what < 3; what++) {
                all.append(x.held(p, key, what)).append(' ');
            }
        }
    }
}
