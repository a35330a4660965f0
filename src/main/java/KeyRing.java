import java.util.Arrays;
import java.util.NoSuchElementException;

/** A table of keys kept by members on a ring of 256 points; DOC.md tells its promises. */
public final class KeyRing {
    public static final int NONE = -1;

    private static final int POINTS = 256;
    private static final int KEYS = 64;
    private static final int MOST_LIVE = 20;
    private static final int LEAST_DEPTH = 2;
    private static final int MOST_DEPTH = 4;
    private static final int FINGERS = 8;
    private static final int MOST_ROUNDS = 40;

    /** What known() calls the predecessor, and finger 0. */
    private static final int PREDECESSOR = -1;
    private static final int FIRST_FINGER = 10;

    /**
     * The live members by ascending points, then rows that wait for a member: all are made
     * once, and the row of a member that failed serves again, so that no call makes objects.
     */
    private final Member[] rows;

    /** The live member at each point, or null. */
    private final Member[] byPoint;

    /** The points that are or were a member's. */
    private final boolean[] taken;

    /** Where the hops of the latest looking of any kind went. */
    private final int[] trail;
    private int trailHops;

    /** Kept apart from the trail: only look() itself may change what hop() tells. */
    private final int[] lookTrail;
    private int lookHops;

    private int depth;
    private boolean isOpen;
    private int live;
    private int failed;
    private int allHops;

    public KeyRing() {
        rows = new Member[MOST_LIVE];
        for (int i = 0; i < MOST_LIVE; i++) {
            rows[i] = new Member();
        }
        byPoint = new Member[POINTS];
        taken = new boolean[POINTS];
        trail = new int[MOST_LIVE];
        lookTrail = new int[MOST_LIVE];
        depth = LEAST_DEPTH;
    }

    public int depth(int r) throws IllegalArgumentException, IllegalStateException {
        if (r < LEAST_DEPTH || r > MOST_DEPTH) {
            throw new IllegalArgumentException("no such depth");
        }
        if (live > 0) {
            throw new IllegalStateException("some member was founded");
        }
        int before = depth;
        depth = r;
        return before;
    }

    public int found(int p) throws IllegalArgumentException, IllegalStateException {
        requirePoint(p);
        if (isOpen) {
            throw new IllegalStateException("it is open");
        }
        requireRoomAt(p);
        addMember(p);
        return live;
    }

    public int open() throws IllegalStateException {
        if (isOpen) {
            throw new IllegalStateException("it is open");
        }
        if (live <= depth) {
            throw new IllegalStateException("too few founders");
        }
        for (int i = 0; i < live; i++) {
            Member m = rows[i];
            for (int k = 0; k < depth; k++) {
                m.list[k] = livePointInTurn(i + 1 + k);
            }
            m.predecessor = livePointInTurn(i - 1);
        }
        isOpen = true;
        return live;
    }

    public int join(int p, int via)
            throws NoSuchElementException, IllegalArgumentException, IllegalStateException {
        Member from = find(via);
        requirePoint(p);
        requireRoomAt(p);
        Member next = lookFor(from, p);
        takeOver(addMember(p), next);
        return next.point;
    }

    public int fail(int p) throws NoSuchElementException, IllegalStateException {
        Member m = find(p);
        if (live - 1 <= depth) {
            throw new IllegalStateException("too few would be live");
        }
        for (int i = 0; i < live; i++) {
            if (rows[i] != m && !knowsLiveOneBeside(rows[i], m)) {
                throw new IllegalStateException("some list would have no live one");
            }
        }
        removeMember(m);
        return live;
    }

    public int stabilise(int p) throws NoSuchElementException {
        Member m = find(p);
        stabiliseMember(m);
        Member s = successor(m);
        return s == null ? NONE : s.point;
    }

    public int mend(int p, int k) throws NoSuchElementException {
        Member m = find(p);
        if (k < 0 || k >= FINGERS) {
            throw new NoSuchElementException("no such finger");
        }
        mendFinger(m, k);
        return m.fingers[k];
    }

    public int handOver(int p) throws NoSuchElementException {
        return takeFromSuccessor(find(p));
    }

    public int spread(int p) throws NoSuchElementException {
        return spreadFrom(find(p));
    }

    public int rounds(int n) throws IllegalArgumentException, IllegalStateException {
        if (n < 0 || n > MOST_ROUNDS) {
            throw new IllegalArgumentException("no such number of rounds");
        }
        if (!isOpen) {
            throw new IllegalStateException("it is not open");
        }
        int moved = 0;
        for (int round = 0; round < n; round++) {
            for (int i = 0; i < live; i++) {
                moved += takeTurn(rows[i]);
            }
        }
        return moved;
    }

    public int look(int from, int point) throws NoSuchElementException, IllegalArgumentException {
        Member m = find(from);
        requirePoint(point);
        Member o = lookFor(m, point);
        System.arraycopy(trail, 0, lookTrail, 0, MOST_LIVE);
        lookHops = trailHops;
        return o.point;
    }

    public int hop(int k) throws NoSuchElementException {
        if (k < 0 || k >= lookHops) {
            throw new NoSuchElementException("no such hop");
        }
        return lookTrail[k];
    }

    public int put(int via, int key, int value)
            throws NoSuchElementException, IllegalArgumentException {
        Member from = find(via);
        requireKey(key);
        if (value < 0) {
            throw new IllegalArgumentException("the value is below 0");
        }
        Member o = lookFor(from, pointOfKey(key));
        o.versions[key]++;
        o.owners[key] = o.point;
        o.values[key] = value;
        copyToList(o, key);
        return o.versions[key];
    }

    public int get(int via, int key) throws NoSuchElementException {
        Member from = find(via);
        requireKey(key);
        Member o = lookFor(from, pointOfKey(key));
        Member holder = o.versions[key] > 0 ? o : highestInList(o, key);
        return holder.values[key];
    }

    public int held(int p, int key, int what)
            throws NoSuchElementException, IllegalArgumentException {
        Member m = find(p);
        requireKey(key);
        switch (what) {
            case 0:
                return m.versions[key];
            case 1:
                return m.owners[key];
            case 2:
                return m.values[key];
            default:
                throw new IllegalArgumentException("no such part of a pair");
        }
    }

    public int known(int p, int k) throws NoSuchElementException {
        Member m = find(p);
        if (k == PREDECESSOR) {
            return m.predecessor;
        }
        if (k >= 0 && k < depth) {
            return m.list[k];
        }
        if (k >= FIRST_FINGER && k < FIRST_FINGER + FINGERS) {
            return m.fingers[k - FIRST_FINGER];
        }
        throw new NoSuchElementException("no such entry");
    }

    public int owner(int point) throws IllegalArgumentException {
        requirePoint(point);
        return trueOwner(point);
    }

    public boolean ideal() {
        if (!isOpen) {
            return false;
        }
        for (int i = 0; i < live; i++) {
            if (!isIdealMember(i)) {
                return false;
            }
        }
        return true;
    }

    public int count(int what) throws IllegalArgumentException {
        switch (what) {
            case 0:
                return live;
            case 1:
                return failed;
            case 2:
                return countPairs();
            case 3:
                return countTrueFingers();
            case 4:
                return countTrueSuccessors();
            case 5:
                return isOpen ? 1 : 0;
            case 6:
                return lookHops;
            case 7:
                return allHops;
            default:
                throw new IllegalArgumentException("no such count");
        }
    }

    // What the calls refuse.

    private Member find(int p) throws NoSuchElementException {
        Member m = isOpen ? liveAt(p) : null;
        if (m == null) {
            throw new NoSuchElementException("no such live member");
        }
        return m;
    }

    private static void requireKey(int key) throws NoSuchElementException {
        if (key < 0 || key >= KEYS) {
            throw new NoSuchElementException("no such key");
        }
    }

    private static void requirePoint(int p) throws IllegalArgumentException {
        if (!isPoint(p)) {
            throw new IllegalArgumentException("no such point");
        }
    }

    private void requireRoomAt(int p) throws IllegalStateException {
        if (taken[p]) {
            throw new IllegalStateException("the point is or was a member's");
        }
        if (live >= MOST_LIVE) {
            throw new IllegalStateException("as many live as may");
        }
    }

    // Points and the way up.

    private static boolean isPoint(int p) {
        return p >= 0 && p < POINTS;
    }

    private static int pointUp(int from, int steps) {
        return (from + steps) & (POINTS - 1);
    }

    private static int stepsUp(int from, int to) {
        return (to - from) & (POINTS - 1);
    }

    private static boolean isBetween(int a, int x, int b) {
        int toX = stepsUp(a, x);
        int toB = stepsUp(a, b);
        return toX != 0 && (toB == 0 || toX < toB);
    }

    private static int pointOfKey(int key) {
        return pointUp(key * 61, 17);
    }

    // Who is live.

    private Member liveAt(int p) {
        return isPoint(p) ? byPoint[p] : null;
    }

    private int livePointInTurn(int turn) {
        return live == 0 ? NONE : rows[Math.floorMod(turn, live)].point;
    }

    private int trueOwner(int point) {
        for (int i = 0; i < live; i++) {
            if (rows[i].point >= point) {
                return rows[i].point;
            }
        }
        return livePointInTurn(0);
    }

    private Member addMember(int p) {
        Member m = rows[live];
        int place = live;
        while (place > 0 && rows[place - 1].point > p) {
            rows[place] = rows[place - 1];
            place--;
        }
        rows[place] = m;
        m.begin(p);
        byPoint[p] = m;
        taken[p] = true;
        live++;
        return m;
    }

    private void removeMember(Member m) {
        for (int i = 0; i < live - 1; i++) {
            if (rows[i] == m) {
                rows[i] = rows[i + 1];
                rows[i + 1] = m;
            }
        }
        byPoint[m.point] = null;
        live--;
        failed++;
    }

    private boolean knowsLiveOneBeside(Member m, Member failing) {
        for (int k = 0; k < depth; k++) {
            Member other = liveAt(m.list[k]);
            if (other != null && other != m && other != failing) {
                return true;
            }
        }
        return false;
    }

    // Looking.

    /** The first live one of its list, which may be itself; null only while it is not open. */
    private Member successor(Member m) {
        for (int k = 0; k < depth; k++) {
            Member s = liveAt(m.list[k]);
            if (s != null) {
                return s;
            }
        }
        return null;
    }

    /** Each hop comes nearer to the point, so no live one is met twice and the bound is never short. */
    private Member lookFor(Member from, int point) {
        Member n = from;
        trailHops = 0;
        for (int i = 0; i < MOST_LIVE; i++) {
            Member o = ownerKnownBy(n, point);
            if (o != null) {
                return o;
            }
            n = lastKnownAheadOf(n, point);
            trail[i] = n.point;
            trailHops++;
            allHops++;
        }
        return n;
    }

    private Member ownerKnownBy(Member n, int point) {
        if (point == n.point) {
            return n;
        }
        Member s = successor(n);
        if (s != null && (point == s.point || isBetween(n.point, point, s.point))) {
            return s;
        }
        return null;
    }

    private Member lastKnownAheadOf(Member n, int point) {
        Member last = n;
        for (int i = 0; i < depth + FINGERS; i++) {
            Member m = liveAt(i < depth ? n.list[i] : n.fingers[i - depth]);
            if (m != null && isBetween(last.point, m.point, point)) {
                last = m;
            }
        }
        return last;
    }

    // Mending.

    /** From the last entry to the first, since a member may take over its own list. */
    private void takeOver(Member m, Member from) {
        for (int k = depth - 1; k > 0; k--) {
            m.list[k] = from.list[k - 1];
        }
        m.list[0] = from.point;
    }

    private void stabiliseMember(Member x) {
        Member s = successor(x);
        if (s == null) {
            return;
        }
        takeOver(x, s);
        Member p = liveAt(s.predecessor);
        if (p != null && isBetween(x.point, p.point, s.point)) {
            takeOver(x, p);
        }
        tell(successor(x), x);
    }

    private void tell(Member t, Member x) {
        if (t == null || t == x) {
            return;
        }
        Member p = liveAt(t.predecessor);
        if (p == null || isBetween(p.point, x.point, t.point)) {
            t.predecessor = x.point;
        }
    }

    private void mendFinger(Member m, int k) {
        m.fingers[k] = lookFor(m, pointUp(m.point, 1 << k)).point;
    }

    private int takeTurn(Member m) {
        stabiliseMember(m);
        mendFinger(m, m.dueFinger);
        m.dueFinger = (m.dueFinger + 1) % FINGERS;
        return takeFromSuccessor(m) + spreadFrom(m);
    }

    // Pairs.

    private int takeFromSuccessor(Member x) {
        Member p = liveAt(x.predecessor);
        Member s = successor(x);
        if (p == null || s == null || s == x) {
            return 0;
        }
        int got = 0;
        for (int key = 0; key < KEYS; key++) {
            if (isInCare(x, p, key) && copyIfHigher(s, x, key)) {
                got++;
            }
        }
        return got;
    }

    private int spreadFrom(Member x) {
        Member p = liveAt(x.predecessor);
        if (p == null) {
            return 0;
        }
        int copies = 0;
        for (int key = 0; key < KEYS; key++) {
            if (isInCare(x, p, key)) {
                copies += copyToList(x, key);
            }
        }
        return copies;
    }

    private static boolean isInCare(Member x, Member predecessor, int key) {
        int point = pointOfKey(key);
        return point == x.point || isBetween(predecessor.point, point, x.point);
    }

    /** Its own list may name the member itself; its pair is not higher than itself, so that is no copy. */
    private int copyToList(Member from, int key) {
        int copies = 0;
        for (int k = 0; k < depth; k++) {
            Member to = liveAt(from.list[k]);
            if (to != null && copyIfHigher(from, to, key)) {
                copies++;
            }
        }
        return copies;
    }

    private static boolean copyIfHigher(Member from, Member to, int key) {
        if (!isHigher(from, to, key)) {
            return false;
        }
        to.versions[key] = from.versions[key];
        to.owners[key] = from.owners[key];
        to.values[key] = from.values[key];
        return true;
    }

    /** No pair has version 0 and owner NONE, below those of any pair. */
    private static boolean isHigher(Member a, Member b, int key) {
        if (a.versions[key] != b.versions[key]) {
            return a.versions[key] > b.versions[key];
        }
        return a.owners[key] > b.owners[key];
    }

    /** The member itself, which has no pair of the key, if no live one of its list has one. */
    private Member highestInList(Member m, int key) {
        Member best = m;
        for (int k = 0; k < depth; k++) {
            Member other = liveAt(m.list[k]);
            if (other != null && isHigher(other, best, key)) {
                best = other;
            }
        }
        return best;
    }

    // Counting.

    private boolean isIdealMember(int i) {
        Member m = rows[i];
        for (int k = 0; k < depth; k++) {
            if (m.list[k] != livePointInTurn(i + 1 + k)) {
                return false;
            }
        }
        return m.predecessor == livePointInTurn(i - 1);
    }

    private int countPairs() {
        int pairs = 0;
        for (int i = 0; i < live; i++) {
            for (int key = 0; key < KEYS; key++) {
                if (rows[i].versions[key] > 0) {
                    pairs++;
                }
            }
        }
        return pairs;
    }

    private int countTrueFingers() {
        int fingers = 0;
        for (int i = 0; i < live; i++) {
            Member m = rows[i];
            for (int k = 0; k < FINGERS; k++) {
                if (m.fingers[k] == trueOwner(pointUp(m.point, 1 << k))) {
                    fingers++;
                }
            }
        }
        return fingers;
    }

    private int countTrueSuccessors() {
        int members = 0;
        for (int i = 0; i < live; i++) {
            Member s = successor(rows[i]);
            if (s != null && s.point == livePointInTurn(i + 1)) {
                members++;
            }
        }
        return members;
    }

    /** What one member knows and keeps; the points it tells of may have failed. */
    private static final class Member {
        final int[] list = new int[MOST_DEPTH];
        final int[] fingers = new int[FINGERS];
        final int[] versions = new int[KEYS];
        final int[] owners = new int[KEYS];
        final int[] values = new int[KEYS];
        int point = NONE;
        int predecessor = NONE;
        int dueFinger;

        /** Clears what an earlier member left in this row. */
        void begin(int p) {
            point = p;
            predecessor = NONE;
            dueFinger = 0;
            Arrays.fill(list, NONE);
            Arrays.fill(fingers, NONE);
            Arrays.fill(versions, 0);
            Arrays.fill(owners, NONE);
            Arrays.fill(values, NONE);
        }
    }
}
