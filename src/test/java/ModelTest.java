import java.util.List;
import java.util.Random;

/** Runs of seeded calls on KeyRing and on PlainRing: every answer must be the same. */
public final class ModelTest {
    private static final int RUNS = 2500;

    // An object has 512 calls; the last ones ask what the others left behind.
    private static final int CALLS = 400;
    private static final int ALL_CALLS = 512;

    private static int longestLook = 0;
    private static int wrongRuns = 0;

    private final KeyRing ring = new KeyRing();
    private final PlainRing plain = new PlainRing();
    private final StringBuilder told = new StringBuilder();
    private final Random random;
    private final int run;

    // A run on few points makes joins and fails crowd; one on all of them lets hops be long.
    private final int step;

    private boolean same = true;
    private int made = 0;

    private ModelTest(int run) {
        this.run = run;
        random = new Random(run);
        step = run % 3 == 0 ? 9 : run % 3 == 1 ? 1 : 3;
    }

    public static void main(String[] args) {
        for (int run = 0; run < RUNS && wrongRuns < 3; run++) {
            new ModelTest(run).play();
        }
        // Shorter looks alone would pass by most of what hops are about.
        Check.due("some look had four hops or more", longestLook >= 4, true);
        Check.end();
    }

    private void play() {
        if (run % 10 == 7) {
            OwnSuccessor[] edges = OwnSuccessor.values();
            beginWithAnOwnSuccessor(edges[run / 10 % edges.length]);
        } else {
            begin();
        }
        while (same && made < CALLS) {
            call();
        }
        while (same && made < ALL_CALLS) {
            ask();
        }
        longestLook = Math.max(longestLook, plain.count(6));
        wrongRuns += same ? 0 : 1;
    }

    private void begin() {
        if (random.nextInt(4) > 0) {
            both("depth", 2 + random.nextInt(3));
        }
        int founders = 1 + random.nextInt(random.nextInt(3) == 0 ? 22 : 8);
        for (int i = 0; i < founders; i++) {
            both("found", somePoint());
        }
        if (random.nextInt(10) > 0) {
            both("open");
        }
    }

    // Seeded calls hardly ever come to this edge by themselves.
    private void beginWithAnOwnSuccessor(OwnSuccessor edge) {
        for (String call : edge.calls) {
            compare(call, Calls.answer(ring, call), Calls.answer(plain, call));
        }
        Check.due("it is its own successor", plain.isItsOwnSuccessor(edge.member), true);
        if (random.nextBoolean()) {
            both("stabilise", edge.member);
        }
    }

    private void call() {
        switch (random.nextInt(19)) {
            case 0: case 1:
                both("join", somePoint(), someMember());
                break;
            case 2: case 3:
                both("fail", someMember());
                break;
            case 4: case 5:
                both("stabilise", someMember());
                break;
            case 6:
                both("mend", someMember(), random.nextInt(10) - 1);
                break;
            case 7:
                both("handOver", someMember());
                break;
            case 8:
                both("spread", someMember());
                break;
            case 9:
                both("rounds", someRounds());
                break;
            case 10:
                both("look", someMember(), somePoint());
                break;
            case 11:
                both("hop", random.nextInt(6) - 1);
                break;
            case 12: case 13: case 14:
                both("put", someMember(), someKey(), random.nextInt(1000) - 20);
                break;
            case 15:
                both("get", someMember(), someKey());
                break;
            case 16:
                both("held", someMember(), someKey(), random.nextInt(5) - 1);
                break;
            case 17:
                both("known", someMember(), random.nextInt(22) - 2);
                break;
            default:
                rareCall();
        }
    }

    private void rareCall() {
        switch (random.nextInt(6)) {
            case 0:
                both("depth", random.nextInt(7));
                break;
            case 1:
                both("found", somePoint());
                break;
            case 2:
                both("open");
                break;
            case 3:
                both("owner", somePoint());
                break;
            case 4:
                both("ideal");
                break;
            default:
                both("count", random.nextInt(10) - 1);
        }
    }

    private void ask() {
        switch (random.nextInt(6)) {
            case 0:
                both("count", random.nextInt(8));
                break;
            case 1:
                both("owner", somePoint());
                break;
            case 2:
                both("ideal");
                break;
            case 3:
                both("held", someMember(), someKey(), random.nextInt(3));
                break;
            default:
                both("known", someMember(), random.nextInt(20) - 1);
        }
    }

    private void both(String name, int... args) {
        StringBuilder call = new StringBuilder(name);
        for (int arg : args) {
            call.append(' ').append(arg);
        }
        compare(call.toString(), Calls.answer(ring, name, args), Calls.answer(plain, name, args));
    }

    private void compare(String call, String got, String want) {
        if (!same) {
            return;
        }
        made++;
        told.append(call).append(" -> ").append(got).append("; ");
        same = got.equals(want);
        Check.due("run " + run + ": as PlainRing answers", same, true);
        if (!same) {
            System.out.println(told + "due is " + want);
        }
    }

    // Many rounds are rare, or every ring would be ideal nearly always.
    private int someRounds() {
        return random.nextInt(12) == 0 ? random.nextInt(44) - 2 : random.nextInt(2);
    }

    private int someKey() {
        return random.nextInt(30) == 0 ? random.nextInt(80) - 8 : random.nextInt(64);
    }

    private int somePoint() {
        if (random.nextInt(40) == 0) {
            return random.nextBoolean() ? -1 - random.nextInt(3) : 256 + random.nextInt(3);
        }
        return random.nextInt(256 / step) * step;
    }

    private int someMember() {
        List<Integer> live = plain.livePoints();
        if (live.isEmpty() || random.nextInt(25) == 0) {
            return somePoint();
        }
        return live.get(random.nextInt(live.size()));
    }
}
