/**
 * A test for each sentence ahead of the document's promises that names a boundary case, but for
 * those on looking, mending and refusal, which have tests of their own. The answers are worked
 * out from the document, but for the lists that OwnSuccessor begins with.
 */
public final class TermsEdgeTest {
    // Keys by their points: 4 at 5, 25 at 6, 46 at 7, 0 at 17, 1 at 78, 6 at 127, 27 at 128, 2 at 139, 8 at 249.

    public static void main(String[] args) {
        Check.sentence("An object is used for at most 512 calls after it has been made",
                TermsEdgeTest::the512thCallIsAnsweredToo);
        Check.sentence("POINTS are 0 .. 255", TermsEdgeTest::points);
        Check.sentence("going UP from 255 one comes to 0", TermsEdgeTest::overTheTop);
        Check.sentence("a and b are not between them", TermsEdgeTest::theEndsAreNotBetween);
        Check.sentence("if a is b, all others are", TermsEdgeTest::allOthersAreBetweenOneAndItself);
        Check.sentence("KEYS are 0 .. 63", TermsEdgeTest::keys);
        Check.sentence("the point of a key is (key * 61 + 17) modulo 256", TermsEdgeTest::pointsOfKeys);
        Check.sentence("at most twenty LIVE", TermsEdgeTest::atMostTwentyLive);
        Check.sentence("A point that was a member's is never one's again", TermsEdgeTest::neverAgain);
        Check.sentence("a LIST of r points (r is the DEPTH, 2 at first)", TermsEdgeTest::listsOfTheDepth);
        Check.sentence("a PREDECESSOR (a point, or none), FINGERS 0 .. 7 (points, or none)", TermsEdgeTest::orNone);
        Check.sentence("What they tell may have failed", TermsEdgeTest::whatTheyTellMayHaveFailed);
        Check.sentence("The SUCCESSOR of a member is the first live one of its list",
                TermsEdgeTest::theFirstLiveOne);
        Check.sentence("its version is greater, or the same with a greater owner", TermsEdgeTest::higher);
        Check.sentence("any pair is higher than none", TermsEdgeTest::higherThanNone);
        Check.sentence("founded by some members, who are live", TermsEdgeTest::foundersAreLive);
        Check.sentence("before that no call finds a member (NoSuchElementException)",
                TermsEdgeTest::noneIsFoundBeforeItIsOpen);
        Check.sentence("each live member's list has the r live ones that come next, going up",
                TermsEdgeTest::idealLists);
        Check.sentence("its predecessor is the live one that comes next, going down",
                TermsEdgeTest::idealPredecessors);
        Check.sentence("IllegalArgumentException, then IllegalStateException, as told",
                TermsEdgeTest::theFirstExceptionComesFirst);
        Check.end();
    }

    private static void the512thCallIsAnsweredToo() {
        KeyRing x = Rings.four();
        for (int version = 1; version <= 506; version++) {
            Check.due("put behind six calls", x.put(10, 1, version), version);
        }
        KeyRing y = Rings.four();
        for (int p = 0; p < 256; p++) {
            if (p % 70 != 10) {
                Check.due("join(" + p + ", 10)", y.join(p, 10), p <= 10 || p > 220 ? 10 : (p + 59) / 70 * 70 + 10);
                Check.due("fail(" + p + ")", y.fail(p), 4);
            }
        }
        Check.state("call 511: all points are or were a member's", () -> y.join(255, 10));
        Check.due("call 512: count(1)", y.count(1), 252);
        KeyRing z = Rings.twenty();
        for (int key = 0; key < 64; key++) {
            Check.due("put key " + key, z.put(0, key, key), 1);
        }
        for (int call = 87; call <= 511; call++) {
            Check.due("call " + call + ": rounds(40)", z.rounds(40), 0);
        }
        Check.due("call 512: ideal()", z.ideal(), true);
    }

    private static void points() {
        KeyRing x = new KeyRing();
        Check.argument("found(-1)", () -> x.found(-1));
        Check.argument("found(256)", () -> x.found(256));
        Check.due("found(0)", x.found(0), 1);
        Check.due("found(255)", x.found(255), 2);
        x.found(100);
        x.open();
        Check.due("look(100, 255)", x.look(100, 255), 255);
        Check.due("look(100, 0)", x.look(100, 0), 0);
        Check.due("owner(255)", x.owner(255), 255);
        Check.due("owner(0)", x.owner(0), 0);
        int[] wrong = {-1, 256, Integer.MIN_VALUE, Integer.MAX_VALUE};
        for (int p : wrong) {
            Check.argument("join(" + p + ", 0)", () -> x.join(p, 0));
            Check.argument("look(0, " + p + ")", () -> x.look(0, p));
            Check.argument("owner(" + p + ")", () -> x.owner(p));
            Check.none("fail(" + p + ")", () -> x.fail(p));
            Check.none("join(7, " + p + ")", () -> x.join(7, p));
        }
    }

    private static void overTheTop() {
        KeyRing x = Rings.of(2, 5, 100, 250);
        Rings.dueList("over the top", x, 250, 5, 100);
        Rings.dueList("over the top", x, 100, 250, 5);
        Check.due("known(5, -1)", x.known(5, -1), 250);
        for (int p : new int[] {251, 255, 0, 4, 5}) {
            Check.due("look(250, " + p + ")", x.look(250, p), 5);
            Check.due("owner(" + p + ")", x.owner(p), 5);
        }
        Check.due("join(255, 250)", x.join(255, 250), 5);
        Check.due("join(0, 250)", x.join(0, 250), 5);
        x.stabilise(0);
        Check.due("0 is between 250 and 5", x.known(5, -1), 0);
        Check.due("0 is between 255 and 5", x.stabilise(255), 0);
        Check.due("0 is between 250 and 5", x.stabilise(250), 0);
        Check.due("250 is not between 255 and 0", x.known(0, -1), 255);
        Check.due("255 is between 250 and 0", x.stabilise(250), 255);
        KeyRing y = Rings.four();
        for (int key : new int[] {3, 8, 4, 25, 46}) {
            y.put(10, key, 1);
        }
        y.join(6, 220);
        y.stabilise(6);
        y.stabilise(220);
        Check.due("keys at 249, 5, 6 are handed over, not those at 200 and 7", y.handOver(6), 3);
        Rings.dueNoPair("not at 7", y, 6, 46);
        Rings.dueNoPair("not at 200", y, 6, 3);
    }

    private static void theEndsAreNotBetween() {
        KeyRing x = Rings.eight();
        Check.due("mend(0, 7)", x.mend(0, 7), 150);
        x.look(0, 150);
        Rings.dueHops("finger 150 is not between 0 and 150", x, 60, 120);
        Check.due("0 is not between 0 and 30", x.stabilise(0), 30);
        Rings.dueList("0 is not between 0 and 30", x, 0, 30, 60);
        KeyRing y = Rings.of(2, 78, 150, 220);
        y.put(78, 1, 4);
        y.join(100, 78);
        y.stabilise(100);
        y.stabilise(78);
        Check.due("key 1 is at the predecessor", y.handOver(100), 0);
        Check.due("78 has key 1 at its own point", y.spread(78), 1);
        y.join(120, 100);
        y.stabilise(120);
        y.stabilise(100);
        Rings.dueNoPair("new", y, 120, 1);
        Check.due("100 has it at its predecessor's", y.spread(100), 0);
    }

    private static void allOthersAreBetweenOneAndItself() {
        KeyRing x = OwnSuccessor.WITH_PREDECESSOR.ring();
        for (int p = 0; p < 256; p++) {
            Check.due("look(22, " + p + ")", x.look(22, p), 22);
        }
        Check.due("hops", x.count(6), 0);
        Check.due("its predecessor is between it and itself", x.stabilise(22), 0);
    }

    private static void keys() {
        KeyRing x = Rings.four();
        for (int key : new int[] {0, 63}) {
            Check.due("put(10, " + key + ", 1)", x.put(10, key, 1), 1);
            Check.due("get(10, " + key + ")", x.get(10, key), 1);
            Check.due("held(80, " + key + ", 0)", x.held(80, key, 0), 1);
        }
        for (int key : new int[] {-1, 64, Integer.MIN_VALUE, Integer.MAX_VALUE}) {
            Check.none("put(10, " + key + ", 1)", () -> x.put(10, key, 1));
            Check.none("get(10, " + key + ")", () -> x.get(10, key));
            Check.none("held(80, " + key + ", 0)", () -> x.held(80, key, 0));
        }
    }

    private static void pointsOfKeys() {
        for (int key = 0; key < 64; key++) {
            int point = (key * 61 + 17) % 256;
            int up = (point + 1) % 256;
            KeyRing x = Rings.of(2, (point + 255) % 256, point, up);
            Check.due("put of key " + key, x.put(up, key, 7), 1);
            Check.due("the owner of key " + key, x.held(up, key, 1), point);
        }
    }

    private static void atMostTwentyLive() {
        KeyRing x = new KeyRing();
        for (int i = 1; i <= 20; i++) {
            Check.due("founder " + i, x.found(i * 10), i);
        }
        Check.state("a founder more", () -> x.found(1));
        Check.due("open()", x.open(), 20);
        Check.state("join beside twenty", () -> x.join(1, 10));
        Check.due("fail(50)", x.fail(50), 19);
        Check.due("join beside nineteen", x.join(1, 10), 10);
        Check.state("beside twenty again", () -> x.join(2, 10));
        KeyRing y = Rings.of(2, 100, 150, 200);
        for (int p = 1; p <= 17; p++) {
            Check.due("join(" + p + ", 200)", y.join(p, 200), 100);
        }
        Check.due("live", y.count(0), 20);
        Check.state("join(18, 200)", () -> y.join(18, 200));
    }

    private static void neverAgain() {
        KeyRing x = Rings.four();
        x.join(100, 80);
        x.fail(100);
        Check.state("one that joined", () -> x.join(100, 80));
        x.fail(80);
        Check.state("a founder", () -> x.join(80, 10));
        x.rounds(8);
        Check.state("after rounds", () -> x.join(100, 10));
        Check.due("the point beside it", x.join(101, 10), 150);
        Check.due("and on the other side", x.join(79, 10), 150);
    }

    private static void listsOfTheDepth() {
        KeyRing plain = new KeyRing();
        for (int p = 10; p <= 60; p += 10) {
            plain.found(p);
        }
        plain.open();
        Rings.dueList("2 at first", plain, 10, 20, 30);
        Check.none("2 at first", () -> plain.known(10, 2));
        for (int r = 2; r <= 4; r++) {
            int past = r;
            KeyRing x = Rings.of(r, 10, 20, 30, 40, 50, 60);
            x.join(15, 10);
            for (int k = 0; k < r; k++) {
                Check.due("depth " + r + ": known(10, " + k + ")", x.known(10, k), 20 + 10 * k);
                Check.due("depth " + r + ": known(15, " + k + ")", x.known(15, k), 20 + 10 * k);
            }
            Check.none("depth " + r + ": known(10, " + past + ")", () -> x.known(10, past));
            Check.none("depth " + r + ": known(15, " + past + ")", () -> x.known(15, past));
        }
    }

    private static void orNone() {
        KeyRing x = Rings.four();
        x.join(100, 80);
        Check.due("a predecessor", x.known(10, -1), 220);
        Check.due("no predecessor", x.known(100, -1), KeyRing.NONE);
        x.mend(100, 0);
        x.mend(100, 7);
        Rings.dueFingers("two of eight", x, 100, 150, -1, -1, -1, -1, -1, -1, 10);
        Check.none("known(100, 10 + 8)", () -> x.known(100, 18));
    }

    private static void whatTheyTellMayHaveFailed() {
        KeyRing x = Rings.four();
        x.put(10, 1, 5);
        x.rounds(1);
        x.fail(80);
        Check.due("of a list", x.known(10, 0), 80);
        Check.due("of a list", x.known(220, 1), 80);
        Check.due("a predecessor", x.known(150, -1), 80);
        Check.due("a finger", x.known(10, 10), 80);
        Check.due("an owner", x.held(150, 1, 1), 80);
        Check.due("count(2)", x.count(2), 2);
    }

    private static void theFirstLiveOne() {
        KeyRing x = Rings.of(4, 0, 30, 60, 90, 120, 150, 180, 210, 240);
        for (int p = 30; p <= 90; p += 30) {
            Check.due("look(0, 1)", x.look(0, 1), p);
            x.fail(p);
        }
        Check.due("the last of the list", x.look(0, 1), 120);
        Check.due("no hop", x.count(7), 0);
        Check.due("count(4)", x.count(4), 6);
        Check.state("there would be none", () -> x.fail(120));
        Check.due("stabilise(0)", x.stabilise(0), 120);
        Rings.dueList("mended", x, 0, 120, 150, 180, 210);
    }

    private static void higher() {
        KeyRing x = Rings.four();
        x.put(10, 2, 5);
        Rings.joinAndTell(x, 140);
        Check.due("put by 140", x.put(80, 2, 9), 1);
        Rings.duePair("the same version, a lower owner: not copied", x, 150, 2, 1, 150, 5);
        Check.due("the same version, a greater owner: handed over", x.handOver(140), 1);
        Rings.duePair("got", x, 140, 2, 1, 150, 5);
        Check.due("the same version, the same owner", x.handOver(140), 0);
        Check.due("the same version, the same owner", x.spread(140), 0);
        Check.due("put by 140 again", x.put(80, 2, 8), 2);
        Rings.duePair("a greater version, a lower owner: copied", x, 150, 2, 2, 140, 8);
        Rings.duePair("and", x, 220, 2, 2, 140, 8);
        Rings.duePair("10 is not in the list of 140", x, 10, 2, 1, 150, 5);
    }

    private static void higherThanNone() {
        KeyRing x = Rings.of(2, 0, 139, 255);
        x.put(255, 27, 0);
        Rings.duePair("copied, owner 139", x, 255, 27, 1, 139, 0);
        Rings.duePair("copied", x, 0, 27, 1, 139, 0);
        KeyRing y = Rings.of(2, 0, 100, 200);
        Check.due("put of key 8 by member 0, value 0", y.put(100, 8, 0), 1);
        Rings.duePair("the least pair there is", y, 100, 8, 1, 0, 0);
        y.join(250, 200);
        y.stabilise(250);
        y.stabilise(200);
        Check.due("handed over to one that has none", y.handOver(250), 1);
        Rings.duePair("got", y, 250, 8, 1, 0, 0);
        y.join(255, 250);
        y.stabilise(255);
        y.stabilise(250);
        Check.due("spread to one that has none", y.spread(250), 1);
        Rings.duePair("got", y, 255, 8, 1, 0, 0);
    }

    private static void foundersAreLive() {
        KeyRing x = new KeyRing();
        x.found(5);
        Check.due("count(0)", x.count(0), 1);
        Check.due("owner(6)", x.owner(6), 5);
        Check.due("count(5)", x.count(5), 0);
    }

    private static void noneIsFoundBeforeItIsOpen() {
        String[] calls = {
            "join 5 10", "fail 10", "stabilise 10", "mend 10 0", "handOver 10", "spread 10", "look 10 10",
            "put 10 0 0", "get 10 0", "held 10 0 0", "known 10 0", "known 10 -1", "known 10 10", "hop 0",
        };
        KeyRing x = new KeyRing();
        for (String call : calls) {
            Check.due(call + " of none", Calls.answer(x, call), "NoSuchElementException");
        }
        x.found(10);
        x.found(80);
        x.found(150);
        for (String call : calls) {
            Check.due(call + " of founders", Calls.answer(x, call), "NoSuchElementException");
        }
        x.open();
        Check.due("when open: stabilise(10)", x.stabilise(10), 80);
    }

    private static void idealLists() {
        KeyRing x = Rings.of(3, 10, 80, 150, 220);
        Check.due("as opened", x.ideal(), true);
        x.join(100, 80);
        Check.due("80 has 150 first", x.ideal(), false);
        x.stabilise(100);
        x.stabilise(80);
        Rings.dueList("80", x, 80, 100, 150, 220);
        x.stabilise(10);
        Rings.dueList("10", x, 10, 80, 100, 150);
        Check.due("220 has 150 third", x.ideal(), false);
        Check.due("all successors are right", x.count(4), 5);
        x.stabilise(220);
        Check.due("it has 100", x.ideal(), true);
        x.fail(100);
        Check.due("a list has one that failed", x.ideal(), false);
    }

    private static void idealPredecessors() {
        KeyRing x = Rings.four();
        x.join(100, 80);
        x.stabilise(100);
        x.fail(100);
        Rings.dueList("80 never knew 100", x, 80, 150, 220);
        Check.due("150 did", x.known(150, -1), 100);
        Check.due("a predecessor failed", x.ideal(), false);
        x.stabilise(80);
        Check.due("80 is back", x.ideal(), true);
        x.join(230, 220);
        x.stabilise(230);
        x.stabilise(220);
        x.stabilise(150);
        Check.due("over the top", x.known(10, -1), 230);
        Check.due("over the top", x.ideal(), true);
    }

    private static void theFirstExceptionComesFirst() {
        KeyRing early = new KeyRing();
        early.found(10);
        Check.argument("depth(5) with a founder", () -> early.depth(5));
        Check.argument("rounds(41) before it is open", () -> early.rounds(41));
        Check.none("look(10, 256) before it is open", () -> early.look(10, 256));
        KeyRing full = Rings.twenty();
        Check.argument("found(256) when open and full", () -> full.found(256));
        Check.none("join(256, 1)", () -> full.join(256, 1));
        Check.none("join(0, 1)", () -> full.join(0, 1));
        Check.argument("join(256, 0)", () -> full.join(256, 0));
        Check.state("join(1, 0)", () -> full.join(1, 0));
        KeyRing few = Rings.of(2, 10, 80, 150);
        Check.none("fail(11) of three", () -> few.fail(11));
        Check.state("fail(10) of three", () -> few.fail(10));
        Check.none("look(11, 256)", () -> few.look(11, 256));
        Check.none("put(11, 0, -1)", () -> few.put(11, 0, -1));
        Check.none("put(10, 64, -1)", () -> few.put(10, 64, -1));
        Check.none("held(11, 0, 3)", () -> few.held(11, 0, 3));
        Check.none("held(10, 64, 3)", () -> few.held(10, 64, 3));
    }
}
