/** "Such a call changes nothing": rings with refused calls and rings without them stay the same. */
public final class RefusalEdgeTest {
    private static final String[] STEPS = {
        "found 10", "found 80", "found 150", "found 220", "open", "put 10 1 5", "rounds 1", "join 100 10",
        "rounds 2", "look 10 200", "fail 80", "put 150 2 6", "rounds 1", "get 10 1", "mend 10 5", "rounds 1",
        "handOver 100", "spread 100", "join 130 100", "rounds 9",
    };

    /** Refused at any time, before it is open and afterwards. */
    private static final String[] REFUSED = {
        "depth 1", "depth 5", "found -1", "found 256", "join 7 11", "join 7 -1", "join 256 10", "join -1 10",
        "join 10 10", "fail 11", "fail 256", "stabilise 11", "mend 11 0", "mend 10 8", "mend 10 -1", "handOver 11",
        "spread 11", "rounds -1", "rounds 41", "look 11 200", "look 10 256", "look 10 -1", "hop -1", "hop 19",
        "put 11 1 1", "put 10 64 1", "put 10 -1 1", "put 10 1 -1", "get 11 1", "get 10 64", "get 10 -1",
        "held 11 1 0", "held 10 64 0", "held 10 1 3", "held 10 1 -1", "known 11 0", "known 10 2", "known 10 -2",
        "known 10 9", "known 10 18", "owner -1", "owner 256", "count -1", "count 8",
    };

    public static void main(String[] args) {
        for (String refused : REFUSED) {
            Check.sentence("Such a call changes nothing: " + refused, () -> refusedAtEachStep(refused));
        }
        Check.sentence("Such a call changes nothing: depth", RefusalEdgeTest::depthWithAFounder);
        Check.sentence("Such a call changes nothing: found", RefusalEdgeTest::foundOnceMoreOrTooMany);
        Check.sentence("Such a call changes nothing: open", RefusalEdgeTest::openWithTooFew);
        Check.sentence("Such a call changes nothing: when open", RefusalEdgeTest::whatIsForFounders);
        Check.sentence("Such a call changes nothing: join", RefusalEdgeTest::joinBesideTwenty);
        Check.sentence("Such a call changes nothing: join", RefusalEdgeTest::joinWhereOneFailed);
        Check.sentence("Such a call changes nothing: fail", RefusalEdgeTest::failOfTooFew);
        Check.sentence("Such a call changes nothing: fail", RefusalEdgeTest::failThatWouldLeaveAListBare);
        Check.sentence("Such a call changes nothing: rounds", RefusalEdgeTest::roundsBeforeItIsOpen);
        Check.end();
    }

    private static void refusedAtEachStep(String refused) {
        KeyRing without = new KeyRing();
        KeyRing with = new KeyRing();
        for (String step : STEPS) {
            dueRefused("ahead of " + step, with, refused);
            Check.due(step + " behind it", Calls.answer(with, step), Calls.answer(without, step));
        }
        dueRefused("in the end", with, refused);
        Check.due("in the end, all that can be asked", Rings.state(with, 1, 2), Rings.state(without, 1, 2));
    }

    private static void dueRefused(String when, KeyRing x, String call) {
        Check.due(when + ": " + call + " is refused", Calls.answer(x, call).endsWith("Exception"), true);
    }

    private static void depthWithAFounder() {
        KeyRing x = new KeyRing();
        x.found(10);
        Check.state("depth(4)", () -> x.depth(4));
        x.found(80);
        x.found(150);
        Check.due("three are enough for depth 2", x.open(), 3);
        Check.none("lists have two", () -> x.known(10, 2));
    }

    private static void foundOnceMoreOrTooMany() {
        KeyRing x = new KeyRing();
        x.found(10);
        Check.state("found(10) again", () -> x.found(10));
        Check.due("count(0)", x.count(0), 1);
        for (int p = 20; p <= 200; p += 10) {
            x.found(p);
        }
        Check.state("found(5) beside twenty", () -> x.found(5));
        Check.due("count(0)", x.count(0), 20);
        Check.due("owner(5)", x.owner(5), 10);
        x.open();
        x.fail(100);
        Check.due("5 was nobody's", x.join(5, 10), 10);
    }

    private static void openWithTooFew() {
        KeyRing x = new KeyRing();
        x.found(10);
        x.found(80);
        Check.state("open()", x::open);
        Check.due("count(5)", x.count(5), 0);
        Check.none("stabilise(10)", () -> x.stabilise(10));
        Check.due("found(150)", x.found(150), 3);
        Check.due("open()", x.open(), 3);
        Rings.dueList("opened", x, 10, 80, 150);
    }

    private static void whatIsForFounders() {
        for (String refused : new String[] {"open", "found 7", "found 10", "depth 3", "depth 2"}) {
            KeyRing x = Rings.four();
            x.put(10, 1, 5);
            x.join(100, 10);
            x.rounds(1);
            x.look(10, 200);
            String before = Rings.state(x, 1);
            Check.due(refused, Calls.answer(x, refused), "IllegalStateException");
            Check.due("behind " + refused, Rings.state(x, 1), before);
            Check.due("7 was nobody's", x.join(7, 220), 10);
        }
    }

    private static void joinBesideTwenty() {
        KeyRing x = Rings.twenty();
        Check.state("join(100, 0)", () -> x.join(100, 0));
        Rings.dueCounts("no hops either", x, 20, 0, 0, 0, 20, 1, 0, 0);
        Check.none("no such member", () -> x.known(100, 0));
        x.fail(12);
        Check.due("100 was nobody's", x.join(100, 96), 108);
    }

    private static void joinWhereOneFailed() {
        KeyRing x = Rings.four();
        x.join(100, 80);
        x.fail(100);
        String before = Rings.state(x);
        Check.state("join(100, 220)", () -> x.join(100, 220));
        Check.state("join(150, 220)", () -> x.join(150, 220));
        Check.due("no hops either", Rings.state(x), before);
    }

    private static void failOfTooFew() {
        KeyRing x = Rings.of(2, 10, 80, 150);
        x.put(10, 1, 5);
        String before = Rings.state(x, 1);
        Check.state("fail(80)", () -> x.fail(80));
        Check.due("behind it", Rings.state(x, 1), before);
        x.join(100, 80);
        Check.due("of four it can fail", x.fail(80), 3);
        Check.due("count(1)", x.count(1), 1);
    }

    private static void failThatWouldLeaveAListBare() {
        KeyRing x = Rings.of(2, 10, 80, 150, 220, 240);
        x.put(10, 1, 5);
        x.fail(80);
        String before = Rings.state(x, 1);
        Check.state("10 would have none", () -> x.fail(150));
        Check.due("behind it", Rings.state(x, 1), before);
        x.stabilise(10);
        Check.due("now it has 220", x.fail(150), 3);
    }

    private static void roundsBeforeItIsOpen() {
        KeyRing x = new KeyRing();
        for (int p = 10; p <= 150; p += 70) {
            x.found(p);
            Check.state("rounds(3)", () -> x.rounds(3));
        }
        x.open();
        Rings.dueCounts("opened", x, 3, 0, 0, 0, 3, 1, 0, 0);
        x.rounds(1);
        Check.due("finger 0 was due", x.known(10, 10), 80);
        Check.due("finger 3 was not", x.known(10, 13), KeyRing.NONE);
    }
}
