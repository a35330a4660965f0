import java.util.List;
import java.util.Random;

/** Runs of seeded calls, at most 512 an object, on KeyRing and on PlainRing: every answer must be the same. */
public final class ModelTest {
    private static final int RUNS = 2500;
    private static final int CALLS = 400;

    private final KeyRing ring = new KeyRing();
    private final PlainRing plain = new PlainRing();
    private final StringBuilder told = new StringBuilder();
    private final Random random;
    private final int run;

    // A run on few points makes joins and fails crowd; one on all of them lets hops be long.
    private final int step;

    private static int ownSuccessors = 0;
    private static int longestLook = 0;
    private static int wrongFound = 0;

    private ModelTest(int run) {
        this.run = run;
        random = new Random(run);
        step = run % 3 == 0 ? 9 : run % 3 == 1 ? 1 : 3;
    }

    public static void main(String[] args) {
        for (int run = 0; run < RUNS && wrongFound < 3; run++) {
            new ModelTest(run).play();
        }
        // Without these the runs would pass by the document's rarest edges.
        Check.due("some member was its own successor", ownSuccessors > 0, true);
        Check.due("some look had four hops or more", longestLook >= 4, true);
        Check.end();
    }

    private void play() {
        boolean same = begin();
        for (int i = 0; same && i < CALLS; i++) {
            same = call();
            for (int p : plain.livePoints()) {
                ownSuccessors += plain.isItsOwnSuccessor(p) ? 1 : 0;
            }
        }
        if (same) {
            same = compareAll();
        }
        longestLook = Math.max(longestLook, plain.count(6));
        if (!same) {
            wrongFound++;
        }
    }

    private boolean begin() {
        if (run % 20 == 7) {
            return beginWithAnOwnSuccessor();
        }
        boolean same = true;
        if (random.nextInt(4) > 0) {
            int r = 2 + random.nextInt(3);
            same = both("depth(" + r + ")", Check.answer(() -> ring.depth(r)), Check.answer(() -> plain.depth(r)));
        }
        int founders = 1 + random.nextInt(random.nextInt(3) == 0 ? 22 : 8);
        for (int i = 0; same && i < founders; i++) {
            int p = somePoint();
            same = both("found(" + p + ")", Check.answer(() -> ring.found(p)), Check.answer(() -> plain.found(p)));
        }
        if (same && random.nextInt(10) > 0) {
            same = both("open()", Check.answer(ring::open), Check.answer(plain::open));
        }
        return same;
    }

    // Seeded calls hardly ever come to this edge by themselves.
    private boolean beginWithAnOwnSuccessor() {
        boolean same = true;
        for (int[] c : OwnSuccessor.CALLS) {
            same = same && both(OwnSuccessor.written(c),
                    Check.answer(() -> OwnSuccessor.call(ring, c)), Check.answer(() -> OwnSuccessor.call(plain, c)));
        }
        return same;
    }

    private boolean call() {
        int p = someMember();
        int q = somePoint();
        int key = random.nextInt(30) == 0 ? random.nextInt(80) - 8 : random.nextInt(64);
        int small = random.nextInt(22) - 2;
        switch (random.nextInt(19)) {
            case 0: case 1:
                return both("join(" + q + ", " + p + ")",
                        Check.answer(() -> ring.join(q, p)), Check.answer(() -> plain.join(q, p)));
            case 2: case 3:
                return both("fail(" + p + ")", Check.answer(() -> ring.fail(p)), Check.answer(() -> plain.fail(p)));
            case 4: case 5:
                return both("stabilise(" + p + ")",
                        Check.answer(() -> ring.stabilise(p)), Check.answer(() -> plain.stabilise(p)));
            case 6:
                return both("mend(" + p + ", " + small + ")",
                        Check.answer(() -> ring.mend(p, small)), Check.answer(() -> plain.mend(p, small)));
            case 7:
                return both("handOver(" + p + ")",
                        Check.answer(() -> ring.handOver(p)), Check.answer(() -> plain.handOver(p)));
            case 8:
                return both("spread(" + p + ")",
                        Check.answer(() -> ring.spread(p)), Check.answer(() -> plain.spread(p)));
            case 9:
                return someRounds();
            case 10:
                return both("look(" + p + ", " + q + ")",
                        Check.answer(() -> ring.look(p, q)), Check.answer(() -> plain.look(p, q)));
            case 11:
                return both("hop(" + small + ")",
                        Check.answer(() -> ring.hop(small)), Check.answer(() -> plain.hop(small)));
            case 12: case 13: case 14:
                int value = random.nextInt(1000) - 20;
                return both("put(" + p + ", " + key + ", " + value + ")",
                        Check.answer(() -> ring.put(p, key, value)), Check.answer(() -> plain.put(p, key, value)));
            case 15:
                return both("get(" + p + ", " + key + ")",
                        Check.answer(() -> ring.get(p, key)), Check.answer(() -> plain.get(p, key)));
            case 16:
                int what = random.nextInt(5) - 1;
                return both("held(" + p + ", " + key + ", " + what + ")",
                        Check.answer(() -> ring.held(p, key, what)), Check.answer(() -> plain.held(p, key, what)));
            case 17:
                return both("known(" + p + ", " + small + ")",
                        Check.answer(() -> ring.known(p, small)), Check.answer(() -> plain.known(p, small)));
            default:
                return rareCall(q);
        }
    }

    private boolean rareCall(int q) {
        int what = random.nextInt(10) - 1;
        int r = random.nextInt(7);
        switch (random.nextInt(6)) {
            case 0:
                return both("depth(" + r + ")", Check.answer(() -> ring.depth(r)), Check.answer(() -> plain.depth(r)));
            case 1:
                return both("found(" + q + ")", Check.answer(() -> ring.found(q)), Check.answer(() -> plain.found(q)));
            case 2:
                return both("open()", Check.answer(ring::open), Check.answer(plain::open));
            case 3:
                return both("owner(" + q + ")", Check.answer(() -> ring.owner(q)), Check.answer(() -> plain.owner(q)));
            case 4:
                return both("ideal()", Boolean.toString(ring.ideal()), Boolean.toString(plain.ideal()));
            default:
                return both("count(" + what + ")",
                        Check.answer(() -> ring.count(what)), Check.answer(() -> plain.count(what)));
        }
    }

    // Many rounds are rare, or every ring would be ideal nearly always.
    private boolean someRounds() {
        int n = random.nextInt(12) == 0 ? random.nextInt(44) - 2 : random.nextInt(2);
        return both("rounds(" + n + ")", Check.answer(() -> ring.rounds(n)), Check.answer(() -> plain.rounds(n)));
    }

    private boolean compareAll() {
        boolean same = both("ideal()", Boolean.toString(ring.ideal()), Boolean.toString(plain.ideal()));
        for (int what = 0; same && what < 8; what++) {
            int w = what;
            same = both("count(" + w + ")", Check.answer(() -> ring.count(w)), Check.answer(() -> plain.count(w)));
        }
        for (int p = 0; same && p < 256; p += 5) {
            int point = p;
            same = both("owner(" + p + ")",
                    Check.answer(() -> ring.owner(point)), Check.answer(() -> plain.owner(point)));
        }
        for (int p : plain.livePoints()) {
            for (int k = -1; same && k < 18; k++) {
                int entry = k;
                same = both("known(" + p + ", " + k + ")",
                        Check.answer(() -> ring.known(p, entry)), Check.answer(() -> plain.known(p, entry)));
            }
            for (int i = 0; same && i < 192; i++) {
                int key = i / 3;
                int what = i % 3;
                same = both("held(" + p + ", " + key + ", " + what + ")",
                        Check.answer(() -> ring.held(p, key, what)), Check.answer(() -> plain.held(p, key, what)));
            }
        }
        return same;
    }

    private boolean both(String call, String got, String want) {
        told.append(call).append(" -> ").append(got).append("; ");
        Check.due("an answer", got.equals(want), true);
        if (!got.equals(want)) {
            System.out.println("run " + run + ": " + told + "due is " + want);
        }
        return got.equals(want);
    }

    private int somePoint() {
        if (random.nextInt(40) == 0) {
            return random.nextBoolean() ? -1 - random.nextInt(3) : 256 + random.nextInt(3);
        }
        return random.nextInt(256 / step) * step;
    }

    private int someMember() {
        List<Integer> live = plain.livePoints();
        if (live.isEmpty() || random.nextInt(25) == 0) {
            return somePoint();
        }
        return live.get(random.nextInt(live.size()));
    }
}
