/**
 * A test for each boundary case that the document names where it tells how members take over,
 * stabilise, hand over, spread and go through a round. The answers are worked out from the
 * document, but for the lists that OwnSuccessor begins with.
 */
public final class MendingEdgeTest {
    // Keys by their points: 4 at 5, 0 at 17, 1 at 78, 6 at 127, 27 at 128, 2 at 139, 23 at 140, 3 at 200.

    public static void main(String[] args) {
        Check.sentence("the list becomes s, and the first r - 1 of the list of s", MendingEdgeTest::takeOver);
        Check.sentence("it takes over the list of its successor s", MendingEdgeTest::fromItsSuccessor);
        Check.sentence("If the predecessor of s is live, and between x and s",
                MendingEdgeTest::fromThePredecessorOfThat);
        Check.sentence("t's predecessor becomes x, if it was none", MendingEdgeTest::toldWithNone);
        Check.sentence("or had failed", MendingEdgeTest::toldWithOneThatFailed);
        Check.sentence("or x is between that one and t", MendingEdgeTest::toldWithOneThatIsLive);
        Check.sentence("x being t changes nothing", MendingEdgeTest::toldOfItself);
        Check.sentence("TO HAND OVER to x: if x has a live predecessor p", MendingEdgeTest::handedOnlyBehindALiveOne);
        Check.sentence("and its successor is not x", MendingEdgeTest::notHandedOverByItself);
        Check.sentence("x gets from its successor each pair whose point is x or between p and x",
                MendingEdgeTest::handedWhatIsInItsCare);
        Check.sentence("and that is higher than x's own", MendingEdgeTest::handedWhatIsHigher);
        Check.sentence("TO SPREAD from x: if x has a live predecessor p", MendingEdgeTest::spreadOnlyBehindALiveOne);
        Check.sentence("each pair of x whose point is x or between p and x", MendingEdgeTest::spreadWhatIsInItsCare);
        Check.sentence("each live one of x's list (x itself left out)", MendingEdgeTest::spreadToLiveOthers);
        Check.sentence("whose own is lower", MendingEdgeTest::spreadToWhoHasLess);
        Check.sentence("each time a COPY", MendingEdgeTest::eachTimeACopy);
        Check.sentence("for each live member, by ascending points", MendingEdgeTest::byAscendingPoints);
        Check.sentence("0 in its first round, then 1, .. , 7, 0, ..", MendingEdgeTest::theFingerThatIsDue);
        Check.sentence("its point + 2 to the power of the finger (modulo 256)", MendingEdgeTest::fingersOverTheTop);
        Check.sentence("it is stabilised; its finger that is due is mended", MendingEdgeTest::stabilisedThenMended);
        Check.sentence("it is handed over to; it spreads", MendingEdgeTest::handedOverToThenSpreads);
        Check.end();
    }

    private static void takeOver() {
        int[][] due = {{150, 220}, {150, 220, 240}, {150, 220, 240, 10}};
        for (int r = 2; r <= 4; r++) {
            KeyRing x = Rings.of(r, 10, 80, 150, 220, 240);
            x.join(100, 80);
            Rings.dueList("depth " + r, x, 100, due[r - 2]);
            x.fail(220);
            x.join(90, 80);
            Rings.dueList("with one that failed, depth " + r, x, 90, due[r - 2]);
        }
        KeyRing x = OwnSuccessor.WITHOUT_PREDECESSOR.ring();
        Rings.dueList("20 and 25 failed", x, 9, 20, 25, 9, 27);
        x.stabilise(9);
        Rings.dueList("from itself", x, 9, 9, 20, 25, 9);
    }

    private static void fromItsSuccessor() {
        KeyRing x = Rings.four();
        Check.due("nothing new", x.stabilise(10), 80);
        Rings.dueList("nothing new", x, 10, 80, 150);
        x.fail(80);
        Check.due("the first of its list failed", x.stabilise(10), 150);
        Rings.dueList("the first of its list failed", x, 10, 150, 220);
        Check.due("the second of its list failed", x.stabilise(220), 10);
        Rings.dueList("the second of its list failed", x, 220, 10, 150);
    }

    private static void fromThePredecessorOfThat() {
        KeyRing x = Rings.four();
        x.join(100, 80);
        Check.due("80 is behind 100", x.stabilise(100), 150);
        Rings.dueList("80 is behind 100", x, 100, 150, 220);
        Check.due("100 is between 80 and 150", x.stabilise(80), 100);
        Rings.dueList("100 is between 80 and 150", x, 80, 100, 150);
        Check.due("80 is 80", x.stabilise(80), 100);
        Rings.dueList("80 is 80", x, 80, 100, 150);
        x.join(120, 100);
        x.stabilise(120);
        x.fail(120);
        Check.due("the predecessor of 150 failed", x.known(150, -1), 120);
        Check.due("it failed", x.stabilise(100), 150);
        Rings.dueList("it failed", x, 100, 150, 220);
    }

    private static void toldWithNone() {
        KeyRing x = Rings.four();
        x.join(100, 80);
        x.stabilise(100);
        Check.due("none", x.known(100, -1), KeyRing.NONE);
        x.stabilise(80);
        Check.due("becomes 80", x.known(100, -1), 80);
    }

    private static void toldWithOneThatFailed() {
        KeyRing x = Rings.four();
        x.fail(80);
        Check.due("80 failed", x.known(150, -1), 80);
        x.stabilise(10);
        Check.due("becomes 10, behind 80 though it is", x.known(150, -1), 10);
    }

    private static void toldWithOneThatIsLive() {
        KeyRing x = Rings.four();
        x.join(90, 80);
        x.join(100, 80);
        x.stabilise(90);
        Check.due("90 is between 80 and 150", x.known(150, -1), 90);
        x.stabilise(100);
        Check.due("100 is between 90 and 150", x.known(150, -1), 100);
        x.stabilise(90);
        Check.due("100 gets 90", x.known(100, -1), 90);
        Check.due("stabilise(80)", x.stabilise(80), 100);
        Check.due("80 is not between 90 and 100", x.known(100, -1), 90);
        x.stabilise(90);
        Check.due("90 is not between 90 and 100, and stays", x.known(100, -1), 90);
    }

    private static void toldOfItself() {
        KeyRing x = OwnSuccessor.WITHOUT_PREDECESSOR.ring();
        Check.due("it failed", x.known(9, -1), 7);
        Check.due("its own successor", x.stabilise(9), 9);
        Check.due("its predecessor is what it was", x.known(9, -1), 7);
    }

    private static void handedOnlyBehindALiveOne() {
        KeyRing x = Rings.four();
        x.put(10, 2, 5);
        x.join(139, 80);
        Check.due("none", x.handOver(139), 0);
        x.stabilise(139);
        x.stabilise(80);
        x.fail(80);
        Check.due("it failed", x.handOver(139), 0);
        Rings.dueNoPair("nothing was got", x, 139, 2);
        x.stabilise(10);
        Check.due("10 is live", x.handOver(139), 1);
    }

    private static void notHandedOverByItself() {
        KeyRing x = OwnSuccessor.WITH_PREDECESSOR.ring();
        x.put(22, 0, 5);
        Rings.duePair("key 0 is between 0 and 22", x, 22, 0, 1, 22, 5);
        Check.due("handOver(22)", x.handOver(22), 0);
        Rings.duePair("as it was", x, 22, 0, 1, 22, 5);
    }

    private static void handedWhatIsInItsCare() {
        KeyRing x = Rings.of(2, 10, 78, 200, 220);
        for (int key : new int[] {1, 6, 2, 23, 3}) {
            x.put(10, key, key);
        }
        x.join(139, 78);
        x.stabilise(139);
        x.stabilise(78);
        Check.due("keys at 127 and 139, not at 78, 140 and 200", x.handOver(139), 2);
        Rings.duePair("between", x, 139, 6, 1, 200, 6);
        Rings.duePair("its own point", x, 139, 2, 1, 200, 2);
        Rings.dueNoPair("its predecessor's point", x, 139, 1);
        Rings.dueNoPair("one past its own point", x, 139, 23);
        Rings.duePair("the giver keeps it", x, 200, 2, 1, 200, 2);
    }

    private static void handedWhatIsHigher() {
        KeyRing x = Rings.four();
        x.put(10, 2, 5);
        Rings.joinAndTell(x, 140);
        Check.due("higher than none", x.handOver(140), 1);
        Check.due("the same", x.handOver(140), 0);
        x.put(80, 2, 6);
        x.fail(150);
        x.stabilise(140);
        Rings.duePair("its successor has the same", x, 220, 2, 2, 140, 6);
        Check.due("the same", x.handOver(140), 0);
        KeyRing y = Rings.four();
        y.put(10, 2, 5);
        y.put(10, 2, 6);
        Rings.joinAndTell(y, 140);
        Check.due("put by 140", y.put(80, 2, 7), 1);
        Check.due("a greater version", y.handOver(140), 1);
        Rings.duePair("got", y, 140, 2, 2, 150, 6);
        KeyRing z = Rings.four();
        z.put(10, 2, 5);
        Rings.joinAndTell(z, 140);
        z.put(80, 2, 7);
        z.put(80, 2, 8);
        z.fail(150);
        z.stabilise(140);
        z.fail(220);
        z.stabilise(140);
        Check.due("10 comes next", z.known(140, 0), 10);
        Rings.duePair("its successor has a lower one", z, 10, 2, 1, 150, 5);
        Check.due("lower", z.handOver(140), 0);
        Rings.duePair("its own", z, 140, 2, 2, 140, 8);
    }

    private static void spreadOnlyBehindALiveOne() {
        KeyRing x = Rings.four();
        x.put(10, 1, 5);
        x.fail(10);
        Rings.joinAndTell(x, 100);
        Check.due("it failed", x.spread(80), 0);
        Rings.dueNoPair("nothing was copied", x, 100, 1);
        x.stabilise(220);
        Check.due("220 is live", x.spread(80), 1);
        x.join(79, 220);
        Check.due("79 owns key 1", x.put(79, 1, 6), 2);
        Check.due("none", x.spread(79), 0);
    }

    private static void spreadWhatIsInItsCare() {
        KeyRing x = Rings.of(2, 78, 128, 200, 220);
        x.put(78, 27, 1);
        x.put(78, 6, 2);
        x.put(78, 1, 3);
        x.put(78, 2, 4);
        x.join(150, 128);
        x.stabilise(150);
        x.stabilise(128);
        Check.due("128 has key 1 too, which is at its predecessor", x.held(128, 1, 0), 1);
        Check.due("keys at 127 and 128", x.spread(128), 2);
        Rings.duePair("its own point", x, 150, 27, 1, 128, 1);
        Rings.duePair("between", x, 150, 6, 1, 128, 2);
        Rings.dueNoPair("its predecessor's point", x, 150, 1);
        Rings.dueNoPair("past its own point", x, 150, 2);
    }

    /** 10 comes to know 200, which never got key 4, and itself. */
    private static void spreadToLiveOthers() {
        KeyRing x = Rings.of(2, 10, 80, 150);
        x.put(10, 4, 7);
        x.join(200, 150);
        x.stabilise(200);
        x.stabilise(150);
        x.stabilise(80);
        x.fail(80);
        x.stabilise(10);
        Rings.dueList("two live", x, 10, 150, 200);
        x.join(60, 10);
        x.fail(150);
        Rings.dueList("150 failed", x, 10, 150, 200);
        Rings.dueNoPair("200 has none", x, 200, 4);
        x.stabilise(10);
        Rings.dueList("200 and itself", x, 10, 200, 10);
        Check.due("its predecessor", x.known(10, -1), 200);
        Check.due("to 200 alone", x.spread(10), 1);
        Rings.duePair("copied", x, 200, 4, 1, 10, 7);
        Check.due("pairs of 10 and 200", x.count(2), 2);
        KeyRing y = Rings.four();
        y.put(10, 1, 5);
        Rings.joinAndTell(y, 100);
        y.fail(100);
        Check.due("100 failed", y.spread(80), 0);
    }

    private static void spreadToWhoHasLess() {
        KeyRing x = Rings.four();
        x.put(10, 2, 5);
        Rings.joinAndTell(x, 140);
        x.put(80, 2, 9);
        Check.due("150 and 220 have a greater owner", x.spread(140), 0);
        Rings.duePair("as it was", x, 150, 2, 1, 150, 5);
        x.put(80, 2, 8);
        Check.due("they have the same", x.spread(140), 0);
        x.fail(150);
        x.stabilise(140);
        x.fail(220);
        x.stabilise(140);
        Rings.dueList("10 and 80 come next", x, 140, 10, 80);
        Rings.duePair("10 has a lower version", x, 10, 2, 1, 150, 5);
        Rings.dueNoPair("80 has none", x, 80, 2);
        Check.due("spread(140)", x.spread(140), 2);
        Rings.duePair("copied", x, 10, 2, 2, 140, 8);
        Rings.duePair("copied", x, 80, 2, 2, 140, 8);
    }

    private static void eachTimeACopy() {
        KeyRing x = Rings.four();
        x.put(10, 1, 4);
        x.put(10, 5, 4);
        x.join(90, 80);
        x.join(100, 80);
        x.stabilise(100);
        x.stabilise(90);
        x.stabilise(80);
        x.stabilise(80);
        Rings.dueList("two that have none", x, 80, 90, 100);
        Check.due("two pairs to two members", x.spread(80), 4);
        Check.due("once more", x.spread(80), 0);
        for (int r = 2; r <= 4; r++) {
            KeyRing y = Rings.of(r, 10, 80, 150, 220, 240);
            y.put(10, 1, 4);
            for (int p : new int[] {100, 99, 98, 97}) {
                Rings.joinAndTell(y, p);
            }
            Check.due("to each of its list, depth " + r, y.spread(80), r);
        }
    }

    private static void byAscendingPoints() {
        KeyRing x = Rings.four();
        x.join(60, 10);
        x.rounds(1);
        Check.due("10 comes ahead of 60", x.known(10, 0), 80);
        Check.due("80 comes to know 60", x.known(80, -1), 60);
        x.rounds(1);
        Check.due("the next round", x.known(10, 0), 60);
        KeyRing y = Rings.four();
        y.join(5, 10);
        y.rounds(1);
        Check.due("5 comes ahead of 220", y.known(220, 0), 5);
        KeyRing z = Rings.four();
        z.join(255, 220);
        z.rounds(1);
        Check.due("220 comes ahead of 255", z.known(220, 0), 10);
        Check.due("10 comes to know 255", z.known(10, -1), 255);
    }

    private static void theFingerThatIsDue() {
        KeyRing x = Rings.four();
        int[] due = {80, 80, 80, 80, 80, 80, 80, 150};
        for (int k = 0; k < 8; k++) {
            x.rounds(0);
            x.mend(150, 7);
            Check.due("finger " + k + " before its round", x.known(10, 10 + k), KeyRing.NONE);
            x.rounds(1);
            Check.due("finger " + k + " in its round", x.known(10, 10 + k), due[k]);
        }
        x.join(11, 10);
        x.stabilise(11);
        x.stabilise(10);
        x.rounds(1);
        Check.due("0 after 7", x.known(10, 10), 11);
        Rings.dueFingers("11 begins with 0", x, 11, 80, -1, -1, -1, -1, -1, -1, -1);
        x.mend(11, 5);
        x.rounds(1);
        Rings.dueFingers("mend() does not change what is due", x, 11, 80, 80, -1, -1, -1, 80, -1, -1);
        x.fail(11);
        x.rounds(6);
        x.join(12, 10);
        x.rounds(1);
        Rings.dueFingers("12 begins with 0 too", x, 12, 80, -1, -1, -1, -1, -1, -1, -1);
    }

    private static void fingersOverTheTop() {
        KeyRing x = Rings.of(2, 0, 2, 128, 254, 255);
        x.rounds(8);
        Rings.dueFingers("255, 0, 2, 6, 14, 30, 62, 126", x, 254, 255, 0, 2, 128, 128, 128, 128, 128);
        Rings.dueFingers("0, 1, 3, 7, 15, 31, 63, 127", x, 255, 0, 2, 128, 128, 128, 128, 128, 128);
        Rings.dueFingers("129, 130, 132, 136, 144, 160, 192, 0", x, 128, 254, 254, 254, 254, 254, 254, 254, 0);
        Rings.dueFingers("1, 2, 4, 8, 16, 32, 64, 128", x, 0, 2, 2, 128, 128, 128, 128, 128, 128);
    }

    private static void stabilisedThenMended() {
        KeyRing x = Rings.four();
        x.join(11, 10);
        x.stabilise(11);
        Check.due("10 does not know 11", x.known(10, 0), 80);
        x.rounds(1);
        Check.due("it does by the time of its finger", x.known(10, 10), 11);
    }

    private static void handedOverToThenSpreads() {
        KeyRing x = Rings.four();
        x.put(80, 4, 3);
        x.join(40, 10);
        x.stabilise(40);
        x.stabilise(10);
        x.join(5, 220);
        x.stabilise(5);
        x.stabilise(220);
        Rings.dueList("10 has key 4, 40 has none", x, 5, 10, 40);
        Check.due("5 gets it and gives it to 40", x.rounds(1), 2);
        Rings.duePair("got", x, 5, 4, 1, 10, 3);
        Rings.duePair("copied", x, 40, 4, 1, 10, 3);
        KeyRing y = Rings.four();
        y.put(10, 1, 500);
        y.join(100, 80);
        y.stabilise(100);
        Check.due("80 comes to know 100 and spreads to it", y.rounds(1), 1);
    }
}
