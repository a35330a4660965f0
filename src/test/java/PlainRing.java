import java.util.ArrayList;
import java.util.HashSet;
import java.util.List;
import java.util.Map;
import java.util.NoSuchElementException;
import java.util.Set;
import java.util.TreeMap;

/**
 * The document once more, sentence by sentence and by other means than KeyRing's (it walks
 * point by point and keeps pairs as records), to be compared with KeyRing over many runs.
 */
final class PlainRing {
    record Pair(int version, int owner, int value) {
        boolean higherThan(Pair other) {
            return other == null || version > other.version
                    || version == other.version && owner > other.owner;
        }
    }

    static final class Node {
        final int point;
        List<Integer> list = new ArrayList<>();
        Integer predecessor = null;
        final Integer[] fingers = new Integer[8];
        final Map<Integer, Pair> pairs = new TreeMap<>();
        int roundsDone = 0;

        Node(int point) {
            this.point = point;
        }
    }

    private final TreeMap<Integer, Node> live = new TreeMap<>();
    private final Set<Integer> gone = new HashSet<>();
    private int r = 2;
    private boolean opened = false;
    private List<Integer> latestLook = new ArrayList<>();
    private int hopsInAll = 0;

    int depth(int depth) {
        argument(depth >= 2 && depth <= 4);
        state(live.isEmpty());
        int was = r;
        r = depth;
        return was;
    }

    int found(int p) {
        argument(point(p));
        state(!opened && !live.containsKey(p) && live.size() < 20);
        live.put(p, new Node(p));
        return live.size();
    }

    int open() {
        state(!opened && live.size() > r);
        for (Node n : live.values()) {
            n.list = nextUp(n.point);
            n.predecessor = nextDown(n.point);
        }
        opened = true;
        return live.size();
    }

    int join(int p, int via) {
        Node from = node(via);
        argument(point(p));
        state(!live.containsKey(p) && !gone.contains(p) && live.size() < 20);
        int o = search(from, p, new ArrayList<>());
        Node n = new Node(p);
        takeOver(n, o);
        live.put(p, n);
        return o;
    }

    int fail(int p) {
        node(p);
        state(live.size() - 1 > r);
        for (Node n : live.values()) {
            if (n.point != p) {
                boolean some = false;
                for (int q : n.list) {
                    some |= q != p && q != n.point && live.containsKey(q);
                }
                state(some);
            }
        }
        live.remove(p);
        gone.add(p);
        return live.size();
    }

    int stabilise(int p) {
        Node x = node(p);
        int s = successor(x);
        takeOver(x, s);
        Integer q = live.get(s).predecessor;
        if (q != null && live.containsKey(q) && between(p, q, s)) {
            takeOver(x, q);
        }
        Node t = live.get(successor(x));
        if (t != x) {
            Integer was = t.predecessor;
            if (was == null || !live.containsKey(was) || between(was, p, t.point)) {
                t.predecessor = p;
            }
        }
        return successor(x);
    }

    int mend(int p, int k) {
        Node x = node(p);
        thing(k >= 0 && k <= 7);
        int power = 1;
        for (int i = 0; i < k; i++) {
            power = power * 2;
        }
        x.fingers[k] = search(x, (p + power) % 256, new ArrayList<>());
        return x.fingers[k];
    }

    int handOver(int p) {
        Node x = node(p);
        int got = 0;
        int s = successor(x);
        if (s == p) {
            return 0;
        }
        for (Map.Entry<Integer, Pair> e : live.get(s).pairs.entrySet()) {
            if (caresFor(x, e.getKey()) && e.getValue().higherThan(x.pairs.get(e.getKey()))) {
                x.pairs.put(e.getKey(), e.getValue());
                got++;
            }
        }
        return got;
    }

    int spread(int p) {
        Node x = node(p);
        int copies = 0;
        for (Map.Entry<Integer, Pair> e : x.pairs.entrySet()) {
            if (caresFor(x, e.getKey())) {
                for (int q : x.list) {
                    Node to = live.get(q);
                    if (to != null && to != x && e.getValue().higherThan(to.pairs.get(e.getKey()))) {
                        to.pairs.put(e.getKey(), e.getValue());
                        copies++;
                    }
                }
            }
        }
        return copies;
    }

    int rounds(int n) {
        argument(n >= 0 && n <= 40);
        state(opened);
        int sum = 0;
        for (int i = 0; i < n; i++) {
            for (int p : new ArrayList<>(live.keySet())) {
                stabilise(p);
                mend(p, live.get(p).roundsDone++ % 8);
                sum += handOver(p);
                sum += spread(p);
            }
        }
        return sum;
    }

    int look(int from, int point) {
        Node n = node(from);
        argument(point(point));
        List<Integer> hops = new ArrayList<>();
        int o = search(n, point, hops);
        latestLook = hops;
        return o;
    }

    int hop(int k) {
        thing(k >= 0 && k < latestLook.size());
        return latestLook.get(k);
    }

    int put(int via, int key, int value) {
        Node from = node(via);
        thing(key >= 0 && key <= 63);
        argument(value >= 0);
        Node o = live.get(search(from, pointOf(key), new ArrayList<>()));
        Pair old = o.pairs.get(key);
        Pair made = new Pair(old == null ? 1 : old.version() + 1, o.point, value);
        o.pairs.put(key, made);
        for (int q : o.list) {
            Node to = live.get(q);
            if (to != null && made.higherThan(to.pairs.get(key))) {
                to.pairs.put(key, made);
            }
        }
        return made.version();
    }

    int get(int via, int key) {
        Node from = node(via);
        thing(key >= 0 && key <= 63);
        Node o = live.get(search(from, pointOf(key), new ArrayList<>()));
        Pair best = o.pairs.get(key);
        if (best == null) {
            for (int q : o.list) {
                Pair other = live.containsKey(q) ? live.get(q).pairs.get(key) : null;
                if (other != null && other.higherThan(best)) {
                    best = other;
                }
            }
        }
        return best == null ? -1 : best.value();
    }

    int held(int p, int key, int what) {
        Node x = node(p);
        thing(key >= 0 && key <= 63);
        argument(what >= 0 && what <= 2);
        Pair pair = x.pairs.get(key);
        if (pair == null) {
            return what == 0 ? 0 : -1;
        }
        return what == 0 ? pair.version() : what == 1 ? pair.owner() : pair.value();
    }

    int known(int p, int k) {
        Node x = node(p);
        thing(k >= -1 && k < r || k >= 10 && k <= 17);
        Integer answer = k == -1 ? x.predecessor : k < r ? x.list.get(k) : x.fingers[k - 10];
        return answer == null ? -1 : answer;
    }

    int owner(int point) {
        argument(point(point));
        if (live.isEmpty()) {
            return -1;
        }
        int at = point;
        while (!live.containsKey(at)) {
            at = (at + 1) % 256;
        }
        return at;
    }

    boolean ideal() {
        boolean all = opened;
        if (opened) {
            for (Node n : live.values()) {
                all &= n.list.equals(nextUp(n.point));
                all &= n.predecessor != null && n.predecessor == nextDown(n.point);
            }
        }
        return all;
    }

    int count(int what) {
        argument(what >= 0 && what <= 7);
        int sum = 0;
        for (Node n : live.values()) {
            if (what == 0) {
                sum++;
            } else if (what == 2) {
                sum += n.pairs.size();
            } else if (what == 3) {
                for (int k = 0; k < 8; k++) {
                    sum += n.fingers[k] != null && n.fingers[k] == owner((n.point + (1 << k)) % 256) ? 1 : 0;
                }
            } else if (what == 4 && opened) {
                sum += successor(n) == owner((n.point + 1) % 256) ? 1 : 0;
            }
        }
        if (what == 5) {
            return opened ? 1 : 0;
        }
        return what == 1 ? gone.size() : what == 6 ? latestLook.size() : what == 7 ? hopsInAll : sum;
    }

    List<Integer> livePoints() {
        return new ArrayList<>(live.keySet());
    }

    boolean isItsOwnSuccessor(int p) {
        return opened && live.containsKey(p) && successor(live.get(p)) == p;
    }

    private int search(Node from, int point, List<Integer> hops) {
        Node n = from;
        while (true) {
            if (point == n.point) {
                return n.point;
            }
            int s = successor(n);
            if (point == s || between(n.point, point, s)) {
                return s;
            }
            List<Integer> ways = new ArrayList<>(n.list);
            for (Integer f : n.fingers) {
                if (f != null) {
                    ways.add(f);
                }
            }
            int last = -1;
            for (int at = (n.point + 1) % 256; at != point; at = (at + 1) % 256) {
                if (live.containsKey(at) && ways.contains(at)) {
                    last = at;
                }
            }
            hops.add(last);
            hopsInAll++;
            n = live.get(last);
        }
    }

    private boolean caresFor(Node x, int key) {
        Integer p = x.predecessor;
        if (p == null || !live.containsKey(p)) {
            return false;
        }
        return pointOf(key) == x.point || between(p, pointOf(key), x.point);
    }

    private void takeOver(Node n, int from) {
        List<Integer> fresh = new ArrayList<>();
        fresh.add(from);
        fresh.addAll(live.get(from).list.subList(0, r - 1));
        n.list = fresh;
    }

    private int successor(Node n) {
        for (int q : n.list) {
            if (live.containsKey(q)) {
                return q;
            }
        }
        throw new AssertionError("a list without a live one");
    }

    private List<Integer> nextUp(int p) {
        List<Integer> next = new ArrayList<>();
        for (int at = (p + 1) % 256; next.size() < r; at = (at + 1) % 256) {
            if (live.containsKey(at)) {
                next.add(at);
            }
        }
        return next;
    }

    private int nextDown(int p) {
        int at = (p + 255) % 256;
        while (!live.containsKey(at)) {
            at = (at + 255) % 256;
        }
        return at;
    }

    private static boolean between(int a, int x, int b) {
        for (int at = (a + 1) % 256; at != b && at != a; at = (at + 1) % 256) {
            if (at == x) {
                return true;
            }
        }
        return false;
    }

    private static int pointOf(int key) {
        return (key * 61 + 17) % 256;
    }

    private static boolean point(int p) {
        return p >= 0 && p <= 255;
    }

    private Node node(int p) {
        thing(opened && live.containsKey(p));
        return live.get(p);
    }

    private static void thing(boolean holds) {
        if (!holds) {
            throw new NoSuchElementException();
        }
    }

    private static void argument(boolean holds) {
        if (!holds) {
            throw new IllegalArgumentException();
        }
    }

    private static void state(boolean holds) {
        if (!holds) {
            throw new IllegalStateException();
        }
    }
}
