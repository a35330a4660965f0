/**
 * A test for each sentence of the document's promises that names a boundary case. The answers
 * are worked out from the document, but for the lists that OwnSuccessor begins with.
 */
public final class PromiseEdgeTest {
    // Keys by their points: 4 at 5, 0 at 17, 63 at 20, 1 at 78, 2 at 139, 3 at 200.

    private static final int[] FAR = {Integer.MIN_VALUE, -1000, 1000, Integer.MAX_VALUE};

    public static void main(String[] args) {
        Check.sentence("1: Not open, no members, depth 2", PromiseEdgeTest::newObject);
        Check.sentence("2: The depth: what it was", PromiseEdgeTest::depthWhatItWas);
        Check.sentence("2: r is not 2 .. 4", PromiseEdgeTest::depthOutOfBounds);
        Check.sentence("2: some member was founded", PromiseEdgeTest::depthWithAMember);
        Check.sentence("3: A founder: how many there are", PromiseEdgeTest::foundFromNoneToTwenty);
        Check.sentence("3: p is no point", PromiseEdgeTest::foundAtNoPoint);
        Check.sentence("3: it is open", PromiseEdgeTest::foundWhenOpen);
        Check.sentence("3: p is one", PromiseEdgeTest::foundTwice);
        Check.sentence("3: or there are twenty", PromiseEdgeTest::foundBesideTwenty);
        Check.sentence("4: lists and predecessors are those of an ideal ring", PromiseEdgeTest::openMakesItIdeal);
        Check.sentence("4: no fingers, no pairs", PromiseEdgeTest::openMakesNothingElse);
        Check.sentence("4: it is open", PromiseEdgeTest::openTwice);
        Check.sentence("4: there are not more than r founders", PromiseEdgeTest::openWithTooFew);
        Check.sentence("5: it looks for p from that one", PromiseEdgeTest::joinLooks);
        Check.sentence("5: No predecessor, no fingers, no pairs", PromiseEdgeTest::joinedWithNothing);
        Check.sentence("5: NoSuchElementException: via", PromiseEdgeTest::joinByNone);
        Check.sentence("5: p is no point", PromiseEdgeTest::joinAtNoPoint);
        Check.sentence("5: p is or was a member's", PromiseEdgeTest::joinAtAMembersPoint);
        Check.sentence("5: or twenty are live", PromiseEdgeTest::joinBesideTwenty);
        Check.sentence("6: A live member fails, with all that it has", PromiseEdgeTest::failTakesAll);
        Check.sentence("6: NoSuchElementException", () -> dueNone("fail", ""));
        Check.sentence("6: not more than r would be live", PromiseEdgeTest::failOfTooFew);
        Check.sentence("6: some live one would have no live one", PromiseEdgeTest::failBaresAList);
        Check.sentence("6: it itself does not count", PromiseEdgeTest::itselfDoesNotCount);
        Check.sentence("7: its successor then", PromiseEdgeTest::stabiliseTellsTheSuccessor);
        Check.sentence("7: NoSuchElementException", () -> dueNone("stabilise", ""));
        Check.sentence("8: what it is then", PromiseEdgeTest::mendTellsTheFinger);
        Check.sentence("8: NoSuchElementException: p", () -> dueNone("mend", " 0"));
        Check.sentence("8: or k is not 0 .. 7", PromiseEdgeTest::mendOutOfBounds);
        Check.sentence("9: how many pairs it got", PromiseEdgeTest::handOverFromNoneToAll);
        Check.sentence("9: NoSuchElementException", () -> dueNone("handOver", ""));
        Check.sentence("10: how many copies", PromiseEdgeTest::spreadFromNoneToAll);
        Check.sentence("10: NoSuchElementException", () -> dueNone("spread", ""));
        Check.sentence("11: So many rounds", PromiseEdgeTest::soManyRounds);
        Check.sentence("11: n is not 0 .. 40", PromiseEdgeTest::roundsOutOfBounds);
        Check.sentence("11: it is not open", PromiseEdgeTest::roundsBeforeItIsOpen);
        Check.sentence("12: NoSuchElementException: from", () -> dueNone("look", " 0"));
        Check.sentence("12: point is none", PromiseEdgeTest::lookForNoPoint);
        Check.sentence("13: Where hop k of the latest look() went (0: the first one)",
                PromiseEdgeTest::hopOfTheLatestLook);
        Check.sentence("13: it had fewer hops", PromiseEdgeTest::fewerHops);
        Check.sentence("14: the version 1 more than it has of it (0: none)", PromiseEdgeTest::putVersions);
        Check.sentence("14: to each live one of its list whose own is lower", PromiseEdgeTest::putCopies);
        Check.sentence("14: NoSuchElementException: via", () -> dueNone("put", " 0 0"));
        Check.sentence("14: or key", () -> dueNoKey("put 10 ", " 0"));
        Check.sentence("14: value is below 0", PromiseEdgeTest::putBelowZero);
        Check.sentence("15: the value that the owner has", PromiseEdgeTest::getOfTheOwner);
        Check.sentence("15: that of the highest pair of the live ones of its list", PromiseEdgeTest::getOfTheList);
        Check.sentence("15: NONE if none has one", PromiseEdgeTest::getOfNone);
        Check.sentence("15: NoSuchElementException: via", () -> dueNone("get", " 0"));
        Check.sentence("15: or key", () -> dueNoKey("get 10 ", ""));
        Check.sentence("16: 0 its version (0: it has none), 1 its owner, 2 its value (NONE both: it has none)",
                PromiseEdgeTest::heldOfNone);
        Check.sentence("16: NoSuchElementException: p", () -> dueNone("held", " 0 0"));
        Check.sentence("16: or key", () -> dueNoKey("held 10 ", " 0"));
        Check.sentence("16: none of these", PromiseEdgeTest::heldOfNoPart);
        Check.sentence("17: Entry k of a member's list (0 .. r - 1)", PromiseEdgeTest::knownOfTheList);
        Check.sentence("17: its predecessor (NONE: none)", PromiseEdgeTest::knownPredecessor);
        Check.sentence("17: its finger k (NONE: none)", PromiseEdgeTest::knownFingers);
        Check.sentence("17: NoSuchElementException: p", () -> dueNone("known", " 0"));
        Check.sentence("17: or there is no such", PromiseEdgeTest::knownOfNoSuch);
        Check.sentence("18: that is the point, or comes next, going up", PromiseEdgeTest::ownerGoingUp);
        Check.sentence("18: NONE if none is live", PromiseEdgeTest::ownerOfNone);
        Check.sentence("18: point is none", PromiseEdgeTest::ownerOfNoPoint);
        Check.sentence("19: Whether it is open and ideal", PromiseEdgeTest::openAndIdeal);
        Check.sentence("20: 0 live members, 1 members that failed", PromiseEdgeTest::countMembers);
        Check.sentence("20: 2 pairs of all live ones", PromiseEdgeTest::countPairs);
        Check.sentence("20: 3 fingers of live members that are the owners of their points",
                PromiseEdgeTest::countFingers);
        Check.sentence("20: 4 live members whose successor is the live one that comes next",
                PromiseEdgeTest::countSuccessors);
        Check.sentence("20: 5 1 if it is open, else 0", PromiseEdgeTest::countOpen);
        Check.sentence("20: 6 hops of the latest look() (0 before)", PromiseEdgeTest::countHopsOfTheLatestLook);
        Check.sentence("20: 7 hops of all looking (by any call, mending too)", PromiseEdgeTest::countAllHops);
        Check.sentence("20: none of these", PromiseEdgeTest::countOfNoSuch);
        Check.end();
    }

    /** A call whose first argument is no live member: past the ends, never one, and failed. */
    private static void dueNone(String name, String rest) {
        KeyRing x = Rings.four();
        x.join(100, 10);
        x.fail(80);
        for (int p : new int[] {-1, 256, 11, 80, Integer.MIN_VALUE, Integer.MAX_VALUE}) {
            String call = name + " " + p + rest;
            Check.due(call, Calls.answer(x, call), "NoSuchElementException");
        }
        String call = name + " 100" + rest;
        Check.due(call + " is answered", Calls.answer(x, call).endsWith("Exception"), false);
    }

    private static void dueNoKey(String before, String behind) {
        KeyRing x = Rings.four();
        for (int key : new int[] {-1, 64, Integer.MIN_VALUE, Integer.MAX_VALUE}) {
            String call = before + key + behind;
            Check.due(call, Calls.answer(x, call), "NoSuchElementException");
        }
        for (int key : new int[] {0, 63}) {
            String call = before + key + behind;
            Check.due(call + " is answered", Calls.answer(x, call).endsWith("Exception"), false);
        }
    }

    private static void newObject() {
        KeyRing x = new KeyRing();
        Rings.dueCounts("new", x, 0, 0, 0, 0, 0, 0, 0, 0);
        Check.due("ideal()", x.ideal(), false);
        Check.state("open()", x::open);
        Check.state("rounds(0)", () -> x.rounds(0));
        Check.due("owner(128)", x.owner(128), KeyRing.NONE);
        Check.due("depth(4)", x.depth(4), 2);
    }

    private static void depthWhatItWas() {
        KeyRing x = new KeyRing();
        Check.due("depth(2)", x.depth(2), 2);
        Check.due("depth(4)", x.depth(4), 2);
        Check.due("depth(4) again", x.depth(4), 4);
        Check.due("depth(3)", x.depth(3), 4);
        Check.due("depth(2)", x.depth(2), 3);
    }

    private static void depthOutOfBounds() {
        KeyRing x = new KeyRing();
        Check.argument("depth(1)", () -> x.depth(1));
        Check.argument("depth(5)", () -> x.depth(5));
        Check.argument("depth(0)", () -> x.depth(0));
        Check.argument("depth(-2)", () -> x.depth(-2));
        for (int r : FAR) {
            Check.argument("depth(" + r + ")", () -> x.depth(r));
        }
    }

    private static void depthWithAMember() {
        KeyRing x = new KeyRing();
        x.found(0);
        for (int r = 2; r <= 4; r++) {
            int depth = r;
            Check.state("depth(" + r + ")", () -> x.depth(depth));
        }
        KeyRing y = Rings.four();
        Check.state("when open", () -> y.depth(2));
    }

    private static void foundFromNoneToTwenty() {
        KeyRing x = new KeyRing();
        for (int i = 1; i <= 20; i++) {
            Check.due("found " + i, x.found(255 - i * 7), i);
        }
        Check.due("count(0)", x.count(0), 20);
    }

    private static void foundAtNoPoint() {
        KeyRing x = new KeyRing();
        Check.argument("found(-1)", () -> x.found(-1));
        Check.argument("found(256)", () -> x.found(256));
        for (int p : FAR) {
            Check.argument("found(" + p + ")", () -> x.found(p));
        }
        Check.due("found(0)", x.found(0), 1);
        Check.due("found(255)", x.found(255), 2);
    }

    private static void foundWhenOpen() {
        KeyRing x = Rings.four();
        Check.state("found(5)", () -> x.found(5));
    }

    private static void foundTwice() {
        KeyRing x = new KeyRing();
        x.found(0);
        x.found(255);
        Check.state("found(0)", () -> x.found(0));
        Check.state("found(255)", () -> x.found(255));
        Check.due("found(1)", x.found(1), 3);
    }

    private static void foundBesideTwenty() {
        KeyRing x = new KeyRing();
        for (int i = 1; i <= 19; i++) {
            x.found(i);
        }
        Check.due("beside nineteen", x.found(100), 20);
        Check.state("beside twenty", () -> x.found(101));
    }

    private static void openMakesItIdeal() {
        KeyRing x = Rings.of(4, 255, 0, 90, 30, 60);
        Rings.dueList("opened", x, 0, 30, 60, 90, 255);
        Rings.dueList("opened", x, 60, 90, 255, 0, 30);
        Rings.dueList("opened", x, 255, 0, 30, 60, 90);
        Check.due("known(0, -1)", x.known(0, -1), 255);
        Check.due("known(30, -1)", x.known(30, -1), 0);
        Check.due("known(255, -1)", x.known(255, -1), 90);
        for (int r = 2; r <= 4; r++) {
            Check.due("depth " + r, Rings.of(r, 200, 100, 50, 150, 0).ideal(), true);
        }
        KeyRing y = Rings.twenty();
        Rings.dueList("twenty", y, 228, 0, 12);
        Check.due("twenty", y.ideal(), true);
    }

    private static void openMakesNothingElse() {
        KeyRing x = Rings.four();
        for (int p = 10; p <= 220; p += 70) {
            Rings.dueFingers("opened", x, p, -1, -1, -1, -1, -1, -1, -1, -1);
        }
        for (int key = 0; key < 64; key++) {
            Rings.dueNoPair("opened", x, 80, key);
        }
        Check.due("count(2)", x.count(2), 0);
    }

    private static void openTwice() {
        KeyRing x = Rings.four();
        Check.state("open()", x::open);
    }

    private static void openWithTooFew() {
        for (int r = 2; r <= 4; r++) {
            KeyRing x = new KeyRing();
            x.depth(r);
            for (int i = 0; i < r; i++) {
                Check.state("open() with " + i + ", depth " + r, x::open);
                x.found(i * 60);
            }
            Check.state("open() with as many as the depth, " + r, x::open);
            x.found(255);
            Check.due("open() with one more", x.open(), r + 1);
        }
    }

    private static void joinLooks() {
        KeyRing x = Rings.four();
        Check.due("join(230, 10)", x.join(230, 10), 10);
        Check.due("hops 150 and 220", x.count(7), 2);
        Check.due("not of look()", x.count(6), 0);
        Check.due("join(100, 80)", x.join(100, 80), 150);
        Check.due("80 does not know 100", x.join(90, 80), 150);
        Check.due("nor does 90", x.join(95, 90), 150);
        Check.due("220 does not know 230", x.join(225, 220), 10);
        Check.due("over the top", x.join(255, 230), 10);
    }

    private static void joinedWithNothing() {
        KeyRing x = Rings.four();
        x.put(10, 1, 500);
        x.rounds(9);
        x.fail(80);
        x.join(79, 10);
        Check.due("predecessor", x.known(79, -1), KeyRing.NONE);
        Rings.dueFingers("joined", x, 79, -1, -1, -1, -1, -1, -1, -1, -1);
        Rings.dueNoPair("joined", x, 79, 1);
        Check.due("pairs of 150 and 220", x.count(2), 2);
    }

    private static void joinByNone() {
        KeyRing x = Rings.four();
        x.join(100, 10);
        x.fail(100);
        for (int via : new int[] {-1, 256, 11, 100, 5, Integer.MIN_VALUE, Integer.MAX_VALUE}) {
            Check.none("join(5, " + via + ")", () -> x.join(5, via));
        }
        Check.due("join(5, 220)", x.join(5, 220), 10);
    }

    private static void joinAtNoPoint() {
        KeyRing x = Rings.four();
        Check.argument("join(-1, 10)", () -> x.join(-1, 10));
        Check.argument("join(256, 10)", () -> x.join(256, 10));
        for (int p : FAR) {
            Check.argument("join(" + p + ", 10)", () -> x.join(p, 10));
        }
        Check.due("join(0, 220)", x.join(0, 220), 10);
        Check.due("join(255, 220)", x.join(255, 220), 10);
    }

    private static void joinAtAMembersPoint() {
        KeyRing x = Rings.four();
        x.join(100, 80);
        Check.state("one that joined", () -> x.join(100, 80));
        Check.state("the one it asks", () -> x.join(80, 80));
        Check.state("another founder", () -> x.join(150, 80));
        x.fail(100);
        Check.state("one that joined and failed", () -> x.join(100, 80));
        x.fail(150);
        Check.state("a founder that failed", () -> x.join(150, 80));
    }

    private static void joinBesideTwenty() {
        KeyRing x = Rings.twenty();
        Check.state("beside twenty", () -> x.join(5, 0));
        x.fail(120);
        Check.due("beside nineteen", x.join(5, 0), 12);
        Check.state("beside twenty", () -> x.join(6, 0));
    }

    private static void failTakesAll() {
        KeyRing x = Rings.four();
        x.put(10, 1, 5);
        x.rounds(1);
        Rings.dueCounts("three pairs, four fingers", x, 4, 0, 3, 4, 4);
        Check.due("fail(80)", x.fail(80), 3);
        Rings.dueCounts("two pairs, those of 150 and 220", x, 3, 1, 2, 2, 3);
        Check.none("known(80, 0)", () -> x.known(80, 0));
        Check.none("held(80, 1, 0)", () -> x.held(80, 1, 0));
    }

    private static void failOfTooFew() {
        for (int r = 2; r <= 4; r++) {
            KeyRing x = new KeyRing();
            x.depth(r);
            for (int i = 0; i <= r + 1; i++) {
                x.found(i * 40);
            }
            x.open();
            Check.due("one more than the depth stays, " + r, x.fail(40), r + 1);
            Check.state("as many as the depth would stay, " + r, () -> x.fail(80));
        }
    }

    private static void failBaresAList() {
        KeyRing x = Rings.of(2, 10, 80, 150, 220, 240);
        Check.due("fail(150)", x.fail(150), 4);
        Check.state("80 has 220 alone", () -> x.fail(220));
        Check.state("10 has 80 alone", () -> x.fail(80));
        x.stabilise(80);
        Rings.dueList("80 has 240 too", x, 80, 220, 240);
        Check.due("220 may fail", x.fail(220), 3);
    }

    private static void itselfDoesNotCount() {
        KeyRing x = Rings.of(2, 10, 80, 150);
        x.join(200, 10);
        x.join(220, 10);
        x.fail(80);
        x.stabilise(10);
        Rings.dueList("150 and itself", x, 10, 150, 10);
        Check.state("10 would have itself alone", () -> x.fail(150));
        Check.due("200 is in no list", x.fail(200), 3);
        KeyRing y = OwnSuccessor.WITHOUT_PREDECESSOR.ring();
        y.join(100, 27);
        y.join(101, 27);
        Rings.dueList("9 has 27", y, 9, 20, 25, 9, 27);
        Check.due("100 is in no list", y.fail(100), 6);
        y.stabilise(9);
        Rings.dueList("9 has itself alone", y, 9, 9, 20, 25, 9);
        Check.state("101 is in no list", () -> y.fail(101));
        KeyRing z = OwnSuccessor.ALONE_IN_ITS_LIST.ring();
        Rings.dueList("9 has itself alone", z, 9, 9, 20, 25, 9);
        Check.state("39 is in no list", () -> z.fail(39));
        Check.due("9 may fail, for the list of one that fails does not count", z.fail(9), 5);
    }

    private static void stabiliseTellsTheSuccessor() {
        KeyRing x = Rings.four();
        Check.due("over the top", x.stabilise(220), 10);
        x.join(100, 80);
        Check.due("the old one", x.stabilise(80), 150);
        x.stabilise(100);
        Check.due("the new one", x.stabilise(80), 100);
        x.fail(100);
        Check.due("it failed", x.stabilise(80), 150);
        KeyRing y = OwnSuccessor.WITHOUT_PREDECESSOR.ring();
        Check.due("itself", y.stabilise(9), 9);
    }

    private static void mendTellsTheFinger() {
        KeyRing x = Rings.of(2, 10, 20, 30);
        Check.due("mend(10, 0)", x.mend(10, 0), 20);
        Check.due("mend(10, 7), itself", x.mend(10, 7), 10);
        Check.due("mend(30, 7), over the top", x.mend(30, 7), 10);
        Rings.dueFingers("the first and the last", x, 10, 20, -1, -1, -1, -1, -1, -1, 10);
        x.join(11, 10);
        x.stabilise(11);
        x.stabilise(10);
        Check.due("mend(10, 0) again", x.mend(10, 0), 11);
        Check.due("known(10, 10)", x.known(10, 10), 11);
    }

    private static void mendOutOfBounds() {
        KeyRing x = Rings.four();
        Check.none("mend(10, -1)", () -> x.mend(10, -1));
        Check.none("mend(10, 8)", () -> x.mend(10, 8));
        Check.none("mend(10, 10)", () -> x.mend(10, 10));
        for (int k : FAR) {
            Check.none("mend(10, " + k + ")", () -> x.mend(10, k));
        }
    }

    private static void handOverFromNoneToAll() {
        KeyRing x = Rings.four();
        Check.due("none has any", x.handOver(10), 0);
        KeyRing y = Rings.of(2, 4, 5, 6);
        for (int key = 0; key < 64; key++) {
            y.put(4, key, key);
        }
        y.join(3, 4);
        y.stabilise(3);
        y.stabilise(6);
        Check.due("all but keys 4 and 25, at 5 and 6", y.handOver(3), 62);
        Check.due("again", y.handOver(3), 0);
    }

    private static void spreadFromNoneToAll() {
        KeyRing x = Rings.four();
        Check.due("it has none", x.spread(10), 0);
        KeyRing y = Rings.of(2, 3, 6, 9);
        for (int key = 0; key < 64; key++) {
            y.put(3, key, key);
        }
        Check.due("all have all", y.spread(3), 0);
        y.join(5, 3);
        y.stabilise(5);
        y.stabilise(3);
        y.join(4, 3);
        y.stabilise(4);
        y.stabilise(3);
        Rings.dueList("two that have none", y, 3, 4, 5);
        Check.due("all but keys 4, 25 and 46, at 5, 6 and 7", y.spread(3), 122);
        Check.due("again", y.spread(3), 0);
    }

    private static void soManyRounds() {
        KeyRing x = Rings.four();
        KeyRing y = Rings.four();
        for (KeyRing z : new KeyRing[] {x, y}) {
            z.put(80, 4, 3);
            z.put(80, 1, 4);
            z.join(5, 10);
            z.join(79, 10);
        }
        String before = Rings.state(x, 1, 4);
        Check.due("rounds(0)", x.rounds(0), 0);
        Check.due("nothing changed", Rings.state(x, 1, 4), before);
        int inAll = 0;
        for (int i = 0; i < 40; i++) {
            inAll += y.rounds(1);
        }
        Check.due("rounds(40)", x.rounds(40), inAll);
        Check.due("as forty of one", Rings.state(x, 1, 4), Rings.state(y, 1, 4));
        Check.due("some were handed over or copied", inAll > 0, true);
        Check.due("rounds(40) again", x.rounds(40), 0);
    }

    private static void roundsOutOfBounds() {
        KeyRing x = Rings.four();
        Check.argument("rounds(-1)", () -> x.rounds(-1));
        Check.argument("rounds(41)", () -> x.rounds(41));
        for (int n : FAR) {
            Check.argument("rounds(" + n + ")", () -> x.rounds(n));
        }
    }

    private static void roundsBeforeItIsOpen() {
        KeyRing x = new KeyRing();
        Check.state("rounds(0) of none", () -> x.rounds(0));
        x.found(10);
        x.found(80);
        x.found(150);
        Check.state("rounds(0) of founders", () -> x.rounds(0));
        Check.state("rounds(40) of founders", () -> x.rounds(40));
        x.open();
        Check.due("rounds(0) when open", x.rounds(0), 0);
    }

    private static void lookForNoPoint() {
        KeyRing x = Rings.four();
        Check.argument("look(10, -1)", () -> x.look(10, -1));
        Check.argument("look(10, 256)", () -> x.look(10, 256));
        for (int p : FAR) {
            Check.argument("look(10, " + p + ")", () -> x.look(10, p));
        }
        Check.due("look(220, 0)", x.look(220, 0), 10);
        Check.due("look(220, 255)", x.look(220, 255), 10);
    }

    private static void hopOfTheLatestLook() {
        KeyRing x = Rings.eight();
        x.look(0, 200);
        Rings.dueHops("three", x, 60, 120, 180);
        x.look(0, 61);
        Rings.dueHops("one", x, 60);
        x.put(0, 3, 1);
        x.get(0, 3);
        x.mend(0, 7);
        x.rounds(1);
        x.join(170, 0);
        Rings.dueHops("only look() counts", x, 60);
        x.fail(60);
        Rings.dueHops("it went there, though that failed", x, 60);
        x.look(0, 0);
        Rings.dueHops("none", x);
    }

    private static void fewerHops() {
        KeyRing x = Rings.eight();
        Check.none("before any look", () -> x.hop(0));
        x.look(0, 200);
        Check.due("hop(2)", x.hop(2), 180);
        Check.none("hop(3)", () -> x.hop(3));
        Check.none("hop(19)", () -> x.hop(19));
        Check.none("hop(20)", () -> x.hop(20));
        Check.none("hop(-1)", () -> x.hop(-1));
        for (int k : FAR) {
            Check.none("hop(" + k + ")", () -> x.hop(k));
        }
        x.look(0, 30);
        Check.none("a look without hops", () -> x.hop(0));
    }

    private static void putVersions() {
        KeyRing x = Rings.four();
        Check.due("it has none", x.put(10, 2, 5), 1);
        Check.due("it has 1", x.put(10, 2, 6), 2);
        x.fail(150);
        Check.due("220 has the copy", x.put(10, 2, 7), 3);
        Rings.duePair("itself as its owner", x, 220, 2, 3, 220, 7);
        Rings.joinAndTell(x, 140);
        Check.due("140 has none, others have 3", x.put(80, 2, 8), 1);
        Rings.duePair("itself as its owner", x, 140, 2, 1, 140, 8);
    }

    private static void putCopies() {
        KeyRing x = Rings.four();
        x.fail(150);
        x.put(10, 1, 5);
        Rings.duePair("150 failed, 220 has it", x, 220, 1, 1, 80, 5);
        Check.due("and no other", x.count(2), 2);
        KeyRing y = Rings.four();
        y.put(10, 2, 5);
        y.put(10, 2, 6);
        Rings.joinAndTell(y, 140);
        y.put(80, 2, 7);
        Rings.duePair("a greater version stays", y, 150, 2, 2, 150, 6);
        y.put(80, 2, 8);
        Rings.duePair("so does the same of a greater owner", y, 150, 2, 2, 150, 6);
        y.put(80, 2, 9);
        Rings.duePair("a lower one does not", y, 150, 2, 3, 140, 9);
        for (int r = 2; r <= 4; r++) {
            KeyRing z = Rings.of(r, 10, 80, 150, 220, 230, 240);
            z.put(10, 1, 5);
            Check.due("to each, depth " + r, z.count(2), r + 1);
        }
    }

    private static void putBelowZero() {
        KeyRing x = Rings.four();
        Check.argument("put(10, 1, -1)", () -> x.put(10, 1, -1));
        Check.argument("put(10, 1, MIN)", () -> x.put(10, 1, Integer.MIN_VALUE));
        Check.due("put(10, 1, 0)", x.put(10, 1, 0), 1);
        Check.due("held(80, 1, 2)", x.held(80, 1, 2), 0);
        Check.due("put(10, 1, MAX)", x.put(10, 1, Integer.MAX_VALUE), 2);
        Check.due("get(10, 1)", x.get(10, 1), Integer.MAX_VALUE);
    }

    private static void getOfTheOwner() {
        KeyRing x = Rings.four();
        x.put(10, 2, 5);
        x.put(10, 2, 6);
        Rings.joinAndTell(x, 140);
        x.put(80, 2, 0);
        Check.due("its own, though others have a higher one", x.get(80, 2), 0);
    }

    /** Owner 140 has none; of its list 160 has version 1 of 160, 220 has version 1 of 220. */
    private static void getOfTheList() {
        KeyRing x = Rings.four();
        x.fail(150);
        x.put(80, 2, 20);
        x.stabilise(80);
        Rings.joinAndTell(x, 160);
        x.put(80, 2, 16);
        Rings.joinAndTell(x, 140);
        Rings.dueList("both have one", x, 140, 160, 220);
        Rings.dueNoPair("the owner has none", x, 140, 2);
        Check.due("the highest", x.get(80, 2), 20);
        x.join(130, 80);
        x.fail(220);
        Check.due("it failed", x.get(80, 2), 16);
        Rings.dueNoPair("get() gives it none", x, 140, 2);
        theHighestComesFirst();
        theHighestComesLastOfFour();
    }

    /** 150 gives version 2 while 155 and 160 stand between it and 220. */
    private static void theHighestComesFirst() {
        KeyRing x = Rings.four();
        x.put(80, 2, 5);
        for (int p : new int[] {160, 155}) {
            x.join(p, 150);
            x.stabilise(p);
            x.stabilise(150);
        }
        x.put(80, 2, 6);
        x.fail(155);
        x.stabilise(150);
        x.fail(160);
        Rings.joinAndTell(x, 140);
        x.stabilise(150);
        x.stabilise(140);
        Rings.dueList("both have one", x, 140, 150, 220);
        Rings.duePair("the higher one", x, 150, 2, 2, 150, 6);
        Rings.duePair("the lower one", x, 220, 2, 1, 150, 5);
        Check.due("the first of its list", x.get(80, 2), 6);
    }

    private static void theHighestComesLastOfFour() {
        KeyRing x = Rings.of(4, 10, 80, 150, 220, 240);
        x.put(10, 2, 5);
        for (int p : new int[] {149, 148, 147, 146}) {
            Rings.joinAndTell(x, p);
        }
        Rings.dueList("149 to 147 have none", x, 146, 147, 148, 149, 150);
        Check.due("the last of its list", x.get(80, 2), 5);
    }

    private static void getOfNone() {
        KeyRing x = Rings.four();
        Check.due("none has one", x.get(10, 2), KeyRing.NONE);
        x.put(10, 2, 0);
        Rings.joinAndTell(x, 145);
        Rings.joinAndTell(x, 140);
        Rings.dueList("150 has one", x, 140, 145, 150);
        Check.due("value 0", x.get(80, 2), 0);
        x.fail(150);
        Check.due("220 has one, but is not in the list", x.held(220, 2, 0), 1);
        Check.due("none of its list has one", x.get(80, 2), KeyRing.NONE);
    }

    private static void heldOfNone() {
        KeyRing x = Rings.four();
        Rings.dueNoPair("never put", x, 10, 0);
        Rings.dueNoPair("never put", x, 10, 63);
        x.put(10, 1, 0);
        Rings.duePair("value 0 is one", x, 80, 1, 1, 80, 0);
        Rings.dueNoPair("not in the list of 80", x, 10, 1);
        KeyRing y = Rings.of(2, 0, 100, 200);
        y.put(100, 8, 0);
        Rings.duePair("owner 0 is one", y, 0, 8, 1, 0, 0);
    }

    private static void heldOfNoPart() {
        KeyRing x = Rings.four();
        Check.argument("held(10, 1, -1)", () -> x.held(10, 1, -1));
        Check.argument("held(10, 1, 3)", () -> x.held(10, 1, 3));
        for (int what : FAR) {
            Check.argument("held(10, 1, " + what + ")", () -> x.held(10, 1, what));
        }
    }

    private static void knownOfTheList() {
        for (int r = 2; r <= 4; r++) {
            KeyRing x = Rings.of(r, 10, 20, 30, 40, 50);
            for (int k = 0; k < r; k++) {
                Check.due("depth " + r + ": known(30, " + k + ")", x.known(30, k), (20 + 10 * k + 10) % 50 + 10);
            }
            int past = r;
            Check.none("depth " + r + ": known(30, " + r + ")", () -> x.known(30, past));
        }
    }

    private static void knownPredecessor() {
        KeyRing x = Rings.four();
        x.join(100, 80);
        Check.due("none", x.known(100, -1), KeyRing.NONE);
        Check.due("over the top", x.known(10, -1), 220);
        KeyRing y = Rings.of(2, 0, 100, 200);
        Check.due("0 is one", y.known(100, -1), 0);
    }

    private static void knownFingers() {
        KeyRing x = Rings.of(2, 0, 100, 200);
        Rings.dueFingers("none", x, 200, -1, -1, -1, -1, -1, -1, -1, -1);
        x.mend(200, 0);
        x.mend(200, 7);
        Rings.dueFingers("0 is one", x, 200, 0, -1, -1, -1, -1, -1, -1, 100);
    }

    private static void knownOfNoSuch() {
        for (int r = 2; r <= 4; r++) {
            KeyRing x = Rings.of(r, 10, 20, 30, 40, 50);
            for (int k = r; k < 10; k++) {
                int entry = k;
                Check.none("depth " + r + ": known(10, " + k + ")", () -> x.known(10, entry));
            }
            Check.none("known(10, -2)", () -> x.known(10, -2));
            Check.none("known(10, 18)", () -> x.known(10, 18));
            for (int k : FAR) {
                Check.none("known(10, " + k + ")", () -> x.known(10, k));
            }
        }
    }

    private static void ownerGoingUp() {
        KeyRing x = Rings.of(2, 10, 80, 150);
        int[][] due = {{0, 10}, {10, 10}, {11, 80}, {79, 80}, {80, 80}, {81, 150}, {150, 150}, {151, 10}, {255, 10}};
        for (int[] row : due) {
            Check.due("owner(" + row[0] + ")", x.owner(row[0]), row[1]);
        }
        x.join(11, 10);
        Check.due("one that nobody knows", x.owner(11), 11);
        x.fail(10);
        Check.due("one that failed", x.owner(10), 11);
        Check.due("over the top", x.owner(151), 11);
    }

    private static void ownerOfNone() {
        KeyRing x = new KeyRing();
        Check.due("owner(0)", x.owner(0), KeyRing.NONE);
        Check.due("owner(255)", x.owner(255), KeyRing.NONE);
        x.found(7);
        Check.due("a founder is live", x.owner(8), 7);
        Check.due("a founder is live", x.owner(7), 7);
    }

    private static void ownerOfNoPoint() {
        KeyRing x = new KeyRing();
        Check.argument("owner(-1)", () -> x.owner(-1));
        Check.argument("owner(256)", () -> x.owner(256));
        KeyRing y = Rings.four();
        Check.argument("owner(-1)", () -> y.owner(-1));
        Check.argument("owner(256)", () -> y.owner(256));
        for (int p : FAR) {
            Check.argument("owner(" + p + ")", () -> y.owner(p));
        }
    }

    private static void openAndIdeal() {
        KeyRing x = new KeyRing();
        Check.due("no members", x.ideal(), false);
        x.found(10);
        x.found(80);
        x.found(150);
        Check.due("not open", x.ideal(), false);
        x.open();
        Check.due("open", x.ideal(), true);
        x.join(100, 80);
        Check.due("one that nobody knows", x.ideal(), false);
        x.fail(100);
        Check.due("it failed, and nobody knew it", x.ideal(), true);
    }

    private static void countMembers() {
        KeyRing x = Rings.four();
        Rings.dueCounts("opened", x, 4, 0);
        x.join(100, 80);
        Rings.dueCounts("joined", x, 5, 0);
        x.fail(100);
        x.fail(80);
        Rings.dueCounts("two failed", x, 3, 2);
    }

    private static void countPairs() {
        KeyRing x = Rings.four();
        Check.due("none", x.count(2), 0);
        x.put(10, 1, 5);
        x.put(10, 1, 6);
        Check.due("one key, three members", x.count(2), 3);
        x.put(10, 0, 5);
        x.put(10, 63, 5);
        Check.due("three keys", x.count(2), 9);
        x.fail(80);
        Check.due("those of live ones", x.count(2), 6);
    }

    private static void countFingers() {
        KeyRing x = Rings.four();
        Check.due("none", x.count(3), 0);
        x.rounds(8);
        Check.due("all", x.count(3), 32);
        x.join(12, 10);
        Check.due("12 owns the points of fingers 0 and 1 of 10", x.count(3), 30);
        x.fail(12);
        Check.due("all again", x.count(3), 32);
    }

    private static void countSuccessors() {
        KeyRing x = Rings.four();
        Check.due("opened", x.count(4), 4);
        x.join(100, 80);
        Check.due("100 has the right one, 80 has not", x.count(4), 4);
        x.fail(80);
        Check.due("10 has 150, 100 comes next", x.count(4), 3);
        x.rounds(2);
        Check.due("mended", x.count(4), 4);
        x.fail(10);
        Check.due("over the top, the second of the list of 220", x.count(4), 3);
        KeyRing y = new KeyRing();
        y.found(10);
        Check.due("a founder has no list yet", y.count(4), 0);
    }

    private static void countOpen() {
        KeyRing x = new KeyRing();
        x.found(10);
        x.found(80);
        x.found(150);
        Check.due("founded", x.count(5), 0);
        x.open();
        Check.due("open", x.count(5), 1);
    }

    private static void countHopsOfTheLatestLook() {
        KeyRing x = Rings.eight();
        Check.due("before", x.count(6), 0);
        x.put(0, 3, 1);
        Check.due("put() is not look()", x.count(6), 0);
        x.look(0, 200);
        Check.due("three", x.count(6), 3);
        x.look(0, 0);
        Check.due("none", x.count(6), 0);
    }

    private static void countAllHops() {
        KeyRing x = Rings.eight();
        Check.due("before", x.count(7), 0);
        x.look(0, 200);
        Check.due("look(): 60, 120, 180", x.count(7), 3);
        x.put(0, 3, 1);
        Check.due("put(): 60, 120, 180", x.count(7), 6);
        x.get(30, 3);
        Check.due("get(): 90, 150, 180", x.count(7), 9);
        x.join(200, 180);
        Check.due("join(): none", x.count(7), 9);
        x.join(170, 90);
        Check.due("join(): 150", x.count(7), 10);
        x.mend(0, 7);
        Check.due("mend(): 60, 120", x.count(7), 12);
        x.stabilise(0);
        x.handOver(0);
        x.spread(0);
        x.fail(30);
        Check.due("no looking", x.count(7), 12);
        KeyRing y = Rings.four();
        y.rounds(7);
        Check.due("fingers 0 to 6: of 10, 80 and 150 up to 64, of 220 at 28", y.count(7), 1);
        y.rounds(1);
        Check.due("finger 7: of 10 at 138, 80 at 208, 150 at 22, 220 at 92", y.count(7), 5);
    }

    private static void countOfNoSuch() {
        KeyRing x = new KeyRing();
        Check.argument("count(-1)", () -> x.count(-1));
        Check.argument("count(8)", () -> x.count(8));
        for (int what : FAR) {
            Check.argument("count(" + what + ")", () -> x.count(what));
        }
    }
}
