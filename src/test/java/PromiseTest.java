import java.util.function.IntSupplier;

/** A method or more a promise; answers are worked out from the document, but for the lists that OwnSuccessor begins with. */
public final class PromiseTest {
    // Keys by their points: 0 at 17, 1 at 78, 2 at 139, 3 at 200, 4 at 5, 6 at 127, 8 at 249, 63 at 20.

    public static void main(String[] args) {
        newObject();
        depth();
        found();
        open();
        join();
        joinedMemberHasNothing();
        fail();
        failMindsTheLists();
        stabilise();
        stabiliseAnOwnSuccessor();
        mend();
        handOver();
        handOverMindsWhatIsHigher();
        spread();
        rounds();
        roundsMendTheFingerThatIsDue();
        look();
        hop();
        put();
        get();
        held();
        known();
        owner();
        ideal();
        count();
        nothingIsFoundBeforeItIsOpen();
        refusedCallsChangeNothing();
        Check.end();
    }

    private static KeyRing ring(int depth, int... points) {
        KeyRing x = new KeyRing();
        x.depth(depth);
        for (int p : points) {
            x.found(p);
        }
        x.open();
        return x;
    }

    private static KeyRing four() {
        return ring(2, 10, 80, 150, 220);
    }

    /** Eight members, 0 to 210. */
    private static KeyRing eight() {
        return ring(2, 0, 30, 60, 90, 120, 150, 180, 210);
    }

    private static KeyRing twenty() {
        KeyRing x = new KeyRing();
        for (int i = 0; i < 20; i++) {
            x.found(i * 12);
        }
        x.open();
        return x;
    }

    /** Four members and one more between 80 and another, known to its neighbours. */
    private static KeyRing fourAnd(int p) {
        KeyRing x = four();
        joinAndTell(x, p);
        return x;
    }

    private static void joinAndTell(KeyRing x, int p) {
        x.join(p, 80);
        x.stabilise(p);
        x.stabilise(80);
    }

    private static void dueList(String when, KeyRing x, int p, int... want) {
        for (int k = 0; k < want.length; k++) {
            Check.due(when + ": known(" + p + ", " + k + ")", x.known(p, k), want[k]);
        }
    }

    private static void duePair(String when, KeyRing x, int p, int key, int... want) {
        for (int what = 0; what < 3; what++) {
            Check.due(when + ": held(" + p + ", " + key + ", " + what + ")", x.held(p, key, what), want[what]);
        }
    }

    private static void dueCounts(String when, KeyRing x, int... want) {
        for (int what = 0; what < want.length; what++) {
            Check.due(when + ": count(" + what + ")", x.count(what), want[what]);
        }
    }

    private static void newObject() {
        KeyRing x = new KeyRing();
        dueCounts("new", x, 0, 0, 0, 0, 0, 0, 0, 0);
        Check.due("new: ideal()", x.ideal(), false);
        Check.due("new: owner(0)", x.owner(0), KeyRing.NONE);
        Check.due("new: depth(2)", x.depth(2), 2);
    }

    private static void depth() {
        KeyRing x = new KeyRing();
        Check.due("depth(4)", x.depth(4), 2);
        Check.due("depth(3)", x.depth(3), 4);
        Check.due("depth(2)", x.depth(2), 3);
        for (int r : new int[] {1, 5, 0, -1, Integer.MIN_VALUE, Integer.MAX_VALUE}) {
            Check.argument("depth(" + r + ")", () -> x.depth(r));
        }
        x.found(7);
        Check.state("depth(3) with a founder", () -> x.depth(3));
        Check.argument("depth(5) with a founder", () -> x.depth(5));
        KeyRing y = four();
        Check.state("depth(2) when open", () -> y.depth(2));
        dueList("depth 4", ring(4, 1, 2, 3, 4, 5), 4, 5, 1, 2, 3);
    }

    private static void found() {
        KeyRing x = new KeyRing();
        Check.due("found(255)", x.found(255), 1);
        Check.due("found(0)", x.found(0), 2);
        Check.state("found(0) again", () -> x.found(0));
        for (int p : new int[] {-1, 256, Integer.MIN_VALUE, Integer.MAX_VALUE}) {
            Check.argument("found(" + p + ")", () -> x.found(p));
        }
        for (int i = 3; i <= 20; i++) {
            Check.due("founder " + i, x.found(i), i);
        }
        Check.state("a founder more than twenty", () -> x.found(100));
        Check.argument("found(256) beside twenty", () -> x.found(256));
        Check.due("open() with twenty", x.open(), 20);
        KeyRing y = four();
        Check.state("found(5) when open", () -> y.found(5));
        Check.argument("found(-1) when open", () -> y.found(-1));
    }

    private static void open() {
        for (int r = 2; r <= 4; r++) {
            KeyRing x = new KeyRing();
            x.depth(r);
            for (int i = 0; i < r; i++) {
                Check.state("open() with " + i + " at depth " + r, x::open);
                x.found(50 * i);
            }
            Check.state("open() with as many as the depth", x::open);
            x.found(240);
            Check.due("open() with one more than the depth", x.open(), r + 1);
            Check.state("open() again", x::open);
        }
        KeyRing x = ring(3, 200, 0, 128, 40);
        dueList("opened", x, 0, 40, 128, 200);
        dueList("opened", x, 40, 128, 200, 0);
        dueList("opened", x, 128, 200, 0, 40);
        dueList("opened", x, 200, 0, 40, 128);
        int[] points = {0, 40, 128, 200};
        for (int i = 0; i < 4; i++) {
            Check.due("opened: a predecessor", x.known(points[i], -1), points[(i + 3) % 4]);
            for (int k = 0; k < 8; k++) {
                Check.due("opened: a finger", x.known(points[i], 10 + k), KeyRing.NONE);
            }
        }
        dueCounts("opened", x, 4, 0, 0, 0, 4, 1, 0, 0);
        Check.due("opened: ideal()", x.ideal(), true);
    }

    private static void join() {
        KeyRing x = four();
        Check.due("join(100, 10)", x.join(100, 10), 150);
        Check.due("its hops", x.count(7), 1);
        dueList("joined", x, 100, 150, 220);
        Check.due("nobody knows 100: join(90, 80)", x.join(90, 80), 150);
        Check.due("by a new member: join(95, 90)", x.join(95, 90), 150);
        Check.due("over the top: join(250, 10)", x.join(250, 10), 10);
        dueList("over the top", x, 250, 10, 80);
        Check.due("join(0, 250)", x.join(0, 250), 10);
        Check.due("join(255, 0)", x.join(255, 0), 10);
        Check.due("live", x.count(0), 10);
        Check.none("join(1, 11)", () -> x.join(1, 11));
        Check.none("join(1, -1)", () -> x.join(1, -1));
        Check.none("join(1, 256)", () -> x.join(1, 256));
        Check.none("join(256, 11)", () -> x.join(256, 11));
        Check.argument("join(256, 10)", () -> x.join(256, 10));
        Check.argument("join(-1, 10)", () -> x.join(-1, 10));
        Check.state("join(100, 10) again", () -> x.join(100, 10));
        Check.state("join(10, 10)", () -> x.join(10, 10));
        x.fail(100);
        Check.none("by one that failed", () -> x.join(1, 100));
        Check.state("a point that was a member's", () -> x.join(100, 10));
        KeyRing y = twenty();
        Check.state("join beside twenty", () -> y.join(5, 0));
        Check.argument("join(256, 0) beside twenty", () -> y.join(256, 0));
        Check.none("join(5, 5) beside twenty", () -> y.join(5, 5));
        y.fail(12);
        Check.due("join beside nineteen", y.join(5, 0), 24);
    }

    private static void joinedMemberHasNothing() {
        KeyRing x = four();
        x.put(10, 1, 500);
        x.rounds(9);
        x.fail(80);
        x.join(79, 10);
        Check.due("joined: predecessor", x.known(79, -1), KeyRing.NONE);
        for (int k = 0; k < 8; k++) {
            Check.due("joined: finger", x.known(79, 10 + k), KeyRing.NONE);
        }
        duePair("joined", x, 79, 1, 0, -1, -1);
        x.rounds(1);
        Check.due("joined: first round mends finger 0", x.known(79, 10) != KeyRing.NONE, true);
        Check.due("joined: and not finger 1", x.known(79, 11), KeyRing.NONE);
    }

    private static void fail() {
        KeyRing x = four();
        x.put(10, 1, 500);
        Check.due("pairs ahead", x.count(2), 3);
        Check.due("fail(80)", x.fail(80), 3);
        Check.due("pairs behind", x.count(2), 2);
        Check.due("what others tell stays", x.known(10, 0), 80);
        Check.none("fail(80) again", () -> x.fail(80));
        Check.none("fail(81)", () -> x.fail(81));
        Check.none("fail(-1)", () -> x.fail(-1));
        Check.none("fail(256)", () -> x.fail(256));
        Check.state("as many as the depth would be live", () -> x.fail(150));
        KeyRing y = ring(4, 1, 2, 3, 4, 5, 6);
        Check.due("fail(1) at depth 4", y.fail(1), 5);
        Check.state("fail(2) at depth 4", () -> y.fail(2));
        Check.due("failed", y.count(1), 1);
    }

    private static void failMindsTheLists() {
        KeyRing x = ring(2, 10, 80, 150);
        x.join(200, 10);
        x.join(220, 10);
        Check.due("fail(80)", x.fail(80), 4);
        Check.due("stabilise(10)", x.stabilise(10), 150);
        dueList("a list that tells of its own member", x, 10, 150, 10);
        Check.state("10 would have only itself", () -> x.fail(150));
        Check.state("150 would have none", () -> x.fail(10));
        Check.due("220 is in no list", x.fail(220), 3);
    }

    private static void stabilise() {
        KeyRing x = four();
        x.join(100, 10);
        Check.due("before 150 knows 100", x.stabilise(80), 150);
        Check.due("150 still has 80", x.known(150, -1), 80);
        Check.due("stabilise(100)", x.stabilise(100), 150);
        Check.due("150 is told of 100", x.known(150, -1), 100);
        Check.due("100 is told of none", x.known(100, -1), KeyRing.NONE);
        Check.due("stabilise(80)", x.stabilise(80), 100);
        dueList("taken over from the predecessor", x, 80, 100, 150);
        Check.due("100 is told of 80", x.known(100, -1), 80);
        Check.due("stabilise(10)", x.stabilise(10), 80);
        dueList("taken over from the successor", x, 10, 80, 100);
        x.fail(100);
        Check.due("its predecessor failed", x.stabilise(80), 150);
        dueList("its predecessor failed", x, 80, 150, 220);
        Check.due("150 is told of 80", x.known(150, -1), 80);
        x.stabilise(10);
        dueList("ideal once more", x, 10, 80, 150);
        Check.due("ideal once more", x.ideal(), true);
        x.join(230, 220);
        x.stabilise(230);
        Check.due("over the top: stabilise(220)", x.stabilise(220), 230);
        Check.due("over the top: 10", x.known(10, -1), 230);
        Check.none("stabilise(100)", () -> x.stabilise(100));
        Check.none("stabilise(-1)", () -> x.stabilise(-1));
        Check.none("stabilise(256)", () -> x.stabilise(256));
    }

    private static void stabiliseAnOwnSuccessor() {
        KeyRing x = OwnSuccessor.WITH_PREDECESSOR.ring();
        int p = OwnSuccessor.WITH_PREDECESSOR.member;
        dueList("34 and 38 failed", x, p, 34, 38, 22, 0);
        Check.due("it owns all it looks for", x.look(p, 21), p);
        Check.due("without a hop", x.count(6), 0);
        x.put(0, 0, 5);
        Check.due("handOver()", x.handOver(p), 0);
        Check.due("stabilise()", x.stabilise(p), 0);
        dueList("all others are between it and itself", x, p, 0, 22, 0, 1);
        Check.due("0 is told of it", x.known(0, -1), p);
        KeyRing y = OwnSuccessor.WITHOUT_PREDECESSOR.ring();
        int q = OwnSuccessor.WITHOUT_PREDECESSOR.member;
        dueList("20 and 25 failed", y, q, 20, 25, 9, 27);
        Check.due("7 failed too: stabilise()", y.stabilise(q), q);
        dueList("taken over from itself", y, q, 9, 20, 25, 9);
        Check.due("being told of itself changes nothing", y.known(q, -1), 7);
        Check.state("it has no live one but itself", () -> y.fail(24));
        Check.due("stabilise(27)", y.stabilise(27), q);
        Check.due("it is told of 27", y.known(q, -1), 27);
        Check.due("and finds it again", y.stabilise(q), 27);
    }

    private static void mend() {
        KeyRing x = four();
        Check.due("mend(10, 7)", x.mend(10, 7), 150);
        Check.due("mend(10, 6)", x.mend(10, 6), 80);
        Check.due("mend(220, 5)", x.mend(220, 5), 10);
        Check.due("mend(220, 7)", x.mend(220, 7), 150);
        Check.due("known(10, 17)", x.known(10, 17), 150);
        Check.due("known(10, 16)", x.known(10, 16), 80);
        Check.due("known(10, 10)", x.known(10, 10), KeyRing.NONE);
        Check.due("look() had no hops", x.count(6), 0);
        Check.due("mending had one from 10 and one from 220", x.count(7), 2);
        x.join(100, 10);
        Check.due("as looked for, not as it is", x.mend(80, 4), 150);
        Check.due("finger 0 is due", x.known(10, 10), KeyRing.NONE);
        x.mend(10, 3);
        x.rounds(1);
        Check.due("finger 0 was due all the same", x.known(10, 10), 80);
        KeyRing y = ring(2, 254, 255, 0, 2);
        Check.due("mend(254, 0)", y.mend(254, 0), 255);
        Check.due("mend(254, 1)", y.mend(254, 1), 0);
        Check.due("mend(255, 1)", y.mend(255, 1), 2);
        Check.due("mend(2, 7)", y.mend(2, 7), 254);
        Check.none("mend(10, 8)", () -> x.mend(10, 8));
        Check.none("mend(10, -1)", () -> x.mend(10, -1));
        Check.none("mend(11, 0)", () -> x.mend(11, 0));
    }

    private static void handOver() {
        KeyRing x = four();
        x.put(10, 2, 5);
        x.put(10, 6, 7);
        x.put(10, 1, 9);
        x.join(139, 80);
        Check.due("without a predecessor", x.handOver(139), 0);
        x.stabilise(139);
        x.stabilise(80);
        Check.due("key 2 is at 139, 6 between; 1 is not", x.handOver(139), 2);
        duePair("got", x, 139, 2, 1, 150, 5);
        duePair("got", x, 139, 6, 1, 150, 7);
        duePair("not got", x, 139, 1, 0, -1, -1);
        duePair("the giver keeps it", x, 150, 2, 1, 150, 5);
        Check.due("handOver(139) again", x.handOver(139), 0);
        KeyRing y = four();
        y.put(10, 2, 5);
        y.put(10, 6, 7);
        joinAndTell(y, 139);
        y.fail(80);
        Check.due("its predecessor failed", y.handOver(139), 0);
        y.stabilise(10);
        Check.due("10 is its predecessor now", y.known(139, -1), 10);
        Check.due("then it gets them", y.handOver(139), 2);
        KeyRing z = ring(2, 78, 150, 220);
        z.put(78, 1, 4);
        z.join(100, 78);
        z.stabilise(100);
        z.stabilise(78);
        Check.due("the point of the predecessor is not between", z.handOver(100), 0);
        Check.none("handOver(11)", () -> x.handOver(11));
        Check.none("handOver(80), failed", () -> y.handOver(80));
        Check.none("handOver(-1)", () -> x.handOver(-1));
    }

    private static void handOverMindsWhatIsHigher() {
        KeyRing x = four();
        x.put(10, 2, 5);
        joinAndTell(x, 140);
        Check.due("140 gives version 1 too", x.put(80, 2, 9), 1);
        duePair("150 has a greater owner", x, 150, 2, 1, 150, 5);
        Check.due("so 140 gets it", x.handOver(140), 1);
        duePair("got", x, 140, 2, 1, 150, 5);
        Check.due("140 gives version 2", x.put(80, 2, 8), 2);
        Check.due("it has all", x.handOver(140), 0);
        duePair("copied", x, 150, 2, 2, 140, 8);
        KeyRing y = four();
        y.put(10, 2, 5);
        joinAndTell(y, 140);
        y.put(80, 2, 9);
        y.put(80, 2, 6);
        Check.due("its own is higher", y.handOver(140), 0);
        duePair("its own is higher", y, 140, 2, 2, 140, 6);
    }

    private static void spread() {
        KeyRing x = four();
        x.put(10, 1, 500);
        x.put(10, 2, 600);
        Check.due("all have it", x.spread(80), 0);
        joinAndTell(x, 100);
        Check.due("spread(80)", x.spread(80), 1);
        duePair("copied", x, 100, 1, 1, 80, 500);
        Check.due("spread(80) again", x.spread(80), 0);
        joinAndTell(x, 90);
        Check.due("100 does not own key 1", x.spread(100), 0);
        Check.due("spread(80) to 90", x.spread(80), 1);
        x.fail(10);
        joinAndTell(x, 85);
        Check.due("its predecessor failed", x.spread(80), 0);
        x.stabilise(220);
        Check.due("220 is its predecessor", x.spread(80), 1);
        duePair("copied", x, 85, 1, 1, 80, 500);
        x.join(95, 90);
        Check.due("without a predecessor", x.spread(95), 0);
        KeyRing y = ring(2, 78, 150, 220, 17);
        y.put(78, 1, 4);
        y.join(100, 78);
        y.stabilise(100);
        y.stabilise(78);
        Check.due("its own point", y.spread(78), 1);
        Check.due("100 has it, and does not own the point of 78", y.spread(100), 0);
        KeyRing z = four();
        z.put(10, 1, 4);
        z.join(90, 80);
        z.join(100, 80);
        z.stabilise(100);
        z.stabilise(90);
        z.stabilise(80);
        z.stabilise(80);
        dueList("two that have none", z, 80, 90, 100);
        Check.due("a copy to each", z.spread(80), 2);
        Check.none("spread(11)", () -> x.spread(11));
        Check.none("spread(10), failed", () -> x.spread(10));
        Check.none("spread(256)", () -> x.spread(256));
    }

    private static void rounds() {
        KeyRing x = four();
        x.put(80, 4, 3);
        x.join(5, 10);
        Check.due("rounds(0)", x.rounds(0), 0);
        Check.due("rounds(0) does nothing", x.known(10, -1), 220);
        Check.due("the first round", x.rounds(1), 0);
        Check.due("5 went ahead of 220", x.known(220, 0), 5);
        Check.due("5 is told of 220", x.known(5, -1), 220);
        Check.due("the second round hands key 4 to 5", x.rounds(1), 1);
        duePair("got", x, 5, 4, 1, 10, 3);
        Check.due("rounds(40)", x.rounds(40), 0);
        Check.due("ideal()", x.ideal(), true);
        KeyRing y = four();
        y.join(60, 10);
        y.rounds(1);
        Check.due("10 went ahead of 60", y.known(10, 0), 80);
        y.rounds(1);
        Check.due("the next round", y.known(10, 0), 60);
        KeyRing z = four();
        z.put(10, 1, 500);
        z.join(100, 80);
        Check.due("the first round", z.rounds(1), 0);
        Check.due("80 spreads to 100 in the second", z.rounds(1), 1);
        Check.argument("rounds(-1)", () -> x.rounds(-1));
        Check.argument("rounds(41)", () -> x.rounds(41));
        KeyRing early = new KeyRing();
        early.found(1);
        Check.state("rounds(0) before it is open", () -> early.rounds(0));
        Check.argument("rounds(41) before it is open", () -> early.rounds(41));
    }

    private static void roundsMendTheFingerThatIsDue() {
        KeyRing x = four();
        int[] want = {80, 80, 80, 80, 80, 80, 80, 150};
        for (int k = 0; k < 8; k++) {
            Check.due("finger " + k + " before its round", x.known(10, 10 + k), KeyRing.NONE);
            x.rounds(1);
            Check.due("finger " + k + " in its round", x.known(10, 10 + k), want[k]);
        }
        x.join(11, 10);
        x.stabilise(11);
        x.stabilise(10);
        x.rounds(1);
        Check.due("finger 0 after finger 7", x.known(10, 10), 11);
        Check.due("11 begins with finger 0", x.known(11, 10), 80);
        Check.due("and not with the others' finger", x.known(11, 11), KeyRing.NONE);
        x.rounds(1);
        Check.due("then finger 1", x.known(11, 11), 80);
    }

    private static void look() {
        KeyRing x = eight();
        Check.due("itself", x.look(30, 30), 30);
        Check.due("its successor", x.look(30, 60), 60);
        Check.due("between them", x.look(30, 31), 60);
        Check.due("no hops so far", x.count(7), 0);
        Check.due("over the top", x.look(210, 255), 0);
        Check.due("over the top", x.look(210, 0), 0);
        Check.due("past the top", x.look(210, 1), 30);
        Check.due("all round", x.look(30, 29), 30);
        Check.due("all round, hops 90, 150, 210, 0", x.count(6), 4);
        x.fail(60);
        Check.due("its successor failed", x.look(30, 60), 90);
        Check.due("point 31 then", x.look(30, 31), 90);
        x.join(40, 30);
        Check.due("as the members know it", x.look(30, 35), 90);
        Check.none("look(60, 0)", () -> x.look(60, 0));
        Check.none("look(-1, 0)", () -> x.look(-1, 0));
        Check.none("look(60, 256)", () -> x.look(60, 256));
        Check.argument("look(30, 256)", () -> x.look(30, 256));
        Check.argument("look(30, -1)", () -> x.look(30, -1));
    }

    private static void dueHops(String when, KeyRing x, int... want) {
        Check.due(when + ": count(6)", x.count(6), want.length);
        for (int k = 0; k < want.length; k++) {
            Check.due(when + ": hop(" + k + ")", k < x.count(6) ? x.hop(k) : KeyRing.NONE, want[k]);
        }
        Check.none(when + ": hop(" + want.length + ")", () -> x.hop(want.length));
        Check.none(when + ": hop(-1)", () -> x.hop(-1));
    }

    private static void hop() {
        KeyRing x = eight();
        dueHops("before any look", x);
        x.look(0, 200);
        dueHops("by lists", x, 60, 120, 180);
        x.look(0, 60);
        dueHops("the point itself is not between", x, 30);
        x.mend(0, 7);
        x.look(0, 200);
        dueHops("by finger 7", x, 150, 180);
        x.look(0, 150);
        dueHops("finger 7 is the point", x, 60, 120);
        x.put(0, 3, 1);
        x.get(30, 3);
        x.join(170, 0);
        x.mend(60, 7);
        Check.argument("look(0, 256)", () -> x.look(0, 256));
        Check.none("look(1, 0)", () -> x.look(1, 0));
        dueHops("only look() counts", x, 60, 120);
        x.fail(150);
        x.look(0, 200);
        dueHops("finger 7 failed", x, 60, 120, 180);
        x.look(0, 0);
        dueHops("without a hop", x);
    }

    private static void put() {
        KeyRing x = four();
        Check.due("put(220, 1, 0)", x.put(220, 1, 0), 1);
        duePair("the owner", x, 80, 1, 1, 80, 0);
        duePair("its list", x, 150, 1, 1, 80, 0);
        duePair("its list", x, 220, 1, 1, 80, 0);
        duePair("no other", x, 10, 1, 0, -1, -1);
        Check.due("put again", x.put(80, 1, Integer.MAX_VALUE), 2);
        duePair("copied again", x, 220, 1, 2, 80, Integer.MAX_VALUE);
        x.fail(80);
        Check.due("150 goes on", x.put(10, 1, 6), 3);
        duePair("150 owns it", x, 220, 1, 3, 150, 6);
        Check.due("put(10, 63, 1)", x.put(10, 63, 1), 1);
        duePair("key 63 is at 20", x, 150, 63, 1, 150, 1);
        KeyRing y = four();
        y.put(10, 2, 1);
        y.put(10, 2, 2);
        y.put(10, 2, 3);
        joinAndTell(y, 140);
        Check.due("140 has none of key 2", y.put(80, 2, 4), 1);
        duePair("150 has a higher one", y, 150, 2, 3, 150, 3);
        KeyRing z = ring(2, 17, 80, 150, 220);
        z.put(150, 0, 1);
        duePair("the point of key 0 is 17", z, 17, 0, 1, 17, 1);
        Check.none("put(11, 1, 1)", () -> x.put(11, 1, 1));
        Check.none("put(80, 1, 1), failed", () -> x.put(80, 1, 1));
        Check.none("put(10, 64, 1)", () -> x.put(10, 64, 1));
        Check.none("put(10, -1, 1)", () -> x.put(10, -1, 1));
        Check.none("put(10, 64, -1)", () -> x.put(10, 64, -1));
        Check.argument("put(10, 0, -1)", () -> x.put(10, 0, -1));
        Check.argument("put(10, 0, MIN)", () -> x.put(10, 0, Integer.MIN_VALUE));
    }

    private static void get() {
        KeyRing x = four();
        Check.due("none has it", x.get(10, 2), KeyRing.NONE);
        x.put(10, 2, 5);
        Check.due("the owner has it", x.get(10, 2), 5);
        joinAndTell(x, 140);
        Check.due("the owner has none, its list has", x.get(80, 2), 5);
        duePair("it gets nothing by that", x, 140, 2, 0, -1, -1);
        x.put(80, 2, 7);
        Check.due("its own, though lower", x.get(80, 2), 7);
        KeyRing y = four();
        y.put(10, 2, 0);
        joinAndTell(y, 145);
        joinAndTell(y, 140);
        Check.due("the first of its list has none", y.known(140, 0), 145);
        Check.due("the second has", y.get(80, 2), 0);
        y.fail(150);
        Check.due("but it failed", y.get(80, 2), KeyRing.NONE);
        y.stabilise(145);
        y.stabilise(140);
        Check.due("220 comes in its place", y.get(80, 2), 0);
        Check.none("get(11, 2)", () -> x.get(11, 2));
        Check.none("get(10, 64)", () -> x.get(10, 64));
        Check.none("get(10, -1)", () -> x.get(10, -1));
        highestOfTheList();
    }

    /** Owner 140 has none; of its list 160 has version 1 of 150, 220 has version 1 of 220. */
    private static void highestOfTheList() {
        KeyRing x = four();
        x.fail(150);
        x.put(80, 2, 20);
        duePair("given by 220", x, 220, 2, 1, 220, 20);
        x.stabilise(80);
        x.join(160, 80);
        x.stabilise(160);
        x.stabilise(80);
        x.put(80, 2, 16);
        duePair("given by 160", x, 160, 2, 1, 160, 16);
        duePair("220 keeps the greater owner", x, 220, 2, 1, 220, 20);
        x.join(140, 80);
        x.stabilise(140);
        x.stabilise(80);
        dueList("the lower one comes first", x, 140, 160, 220);
        Check.due("the highest of its list", x.get(80, 2), 20);
    }

    private static void held() {
        KeyRing x = four();
        x.put(10, 1, 500);
        x.put(10, 1, 501);
        duePair("put twice", x, 150, 1, 2, 80, 501);
        duePair("never put", x, 150, 0, 0, -1, -1);
        duePair("never put", x, 150, 63, 0, -1, -1);
        Check.argument("held(10, 0, 3)", () -> x.held(10, 0, 3));
        Check.argument("held(10, 0, -1)", () -> x.held(10, 0, -1));
        Check.none("held(10, 64, 3)", () -> x.held(10, 64, 3));
        Check.none("held(10, -1, 0)", () -> x.held(10, -1, 0));
        Check.none("held(11, 0, 0)", () -> x.held(11, 0, 0));
        x.fail(80);
        Check.none("held(80, 1, 0), failed", () -> x.held(80, 1, 0));
    }

    private static void known() {
        for (int r = 2; r <= 4; r++) {
            KeyRing x = ring(r, 10, 20, 30, 40, 50);
            dueList("depth " + r, x, 40, r == 2 ? new int[] {50, 10}
                    : r == 3 ? new int[] {50, 10, 20} : new int[] {50, 10, 20, 30});
            Check.due("known(10, -1)", x.known(10, -1), 50);
            x.mend(10, 0);
            x.mend(10, 7);
            Check.due("known(10, 10)", x.known(10, 10), 20);
            Check.due("known(10, 11)", x.known(10, 11), KeyRing.NONE);
            Check.due("known(10, 17)", x.known(10, 17), 10);
            for (int k : new int[] {-2, r, 5, 8, 9, 18, Integer.MIN_VALUE, Integer.MAX_VALUE}) {
                Check.none("known(10, " + k + ") at depth " + r, () -> x.known(10, k));
            }
            Check.none("known(11, 0)", () -> x.known(11, 0));
            Check.none("known(-1, 0)", () -> x.known(-1, 0));
            Check.none("known(256, 0)", () -> x.known(256, 0));
        }
        KeyRing x = four();
        x.join(100, 10);
        Check.due("no predecessor", x.known(100, -1), KeyRing.NONE);
    }

    private static void owner() {
        KeyRing x = new KeyRing();
        Check.due("owner(255) of none", x.owner(255), KeyRing.NONE);
        x.found(150);
        Check.due("a founder is live", x.owner(151), 150);
        x.found(10);
        x.found(80);
        x.found(220);
        x.open();
        int[][] points = {{0, 10}, {10, 10}, {11, 80}, {80, 80}, {81, 150}, {220, 220}, {221, 10}, {255, 10}};
        for (int[] row : points) {
            Check.due("owner(" + row[0] + ")", x.owner(row[0]), row[1]);
        }
        x.join(100, 10);
        Check.due("as it is, not as members know it", x.owner(81), 100);
        x.fail(10);
        Check.due("10 failed", x.owner(221), 80);
        Check.argument("owner(-1)", () -> x.owner(-1));
        Check.argument("owner(256)", () -> x.owner(256));
    }

    private static void ideal() {
        KeyRing x = new KeyRing();
        x.found(10);
        x.found(80);
        x.found(150);
        x.found(220);
        Check.due("not open", x.ideal(), false);
        x.open();
        Check.due("open", x.ideal(), true);
        joinAndTell(x, 100);
        Check.due("10 has 150 in its list, not 100", x.ideal(), false);
        Check.due("though all successors are right", x.count(4), 5);
        x.stabilise(10);
        Check.due("now it has", x.ideal(), true);
        x.fail(150);
        Check.due("150 failed", x.ideal(), false);
        x.rounds(2);
        Check.due("mended", x.ideal(), true);
    }

    private static void count() {
        KeyRing x = eight();
        dueCounts("opened", x, 8, 0, 0, 0, 8, 1, 0, 0);
        x.put(0, 3, 9);
        dueCounts("key 3 from 0, hops 60, 120, 180; at 210, 0, 30", x, 8, 0, 3, 0, 8, 1, 0, 3);
        x.mend(0, 5);
        dueCounts("a finger", x, 8, 0, 3, 1, 8, 1, 0, 4);
        x.look(30, 100);
        dueCounts("hop 90", x, 8, 0, 3, 1, 8, 1, 1, 5);
        x.join(45, 30);
        dueCounts("30 does not know 45, nor does finger 5 of 0", x, 9, 0, 3, 0, 8, 1, 1, 5);
        x.fail(210);
        dueCounts("180 knows 0 as well", x, 8, 1, 2, 0, 7, 1, 1, 5);
        Check.due("get(0, 3): 0 has it, 60, 120, 180", x.get(0, 3), 9);
        dueCounts("hops of get()", x, 8, 1, 2, 0, 7, 1, 1, 8);
        x.rounds(8);
        Check.due("after eight rounds the successors are right", x.count(4), 8);
        Check.due("mending in rounds hops too", x.count(7) > 8, true);
        Check.argument("count(8)", () -> x.count(8));
        Check.argument("count(-1)", () -> x.count(-1));
        KeyRing y = new KeyRing();
        y.found(3);
        dueCounts("a founder", y, 1, 0, 0, 0, 0, 0, 0, 0);
    }

    private static void nothingIsFoundBeforeItIsOpen() {
        KeyRing x = new KeyRing();
        x.found(10);
        x.found(80);
        x.found(150);
        IntSupplier[] calls = {
            () -> x.join(5, 10), () -> x.fail(10), () -> x.stabilise(10), () -> x.mend(10, 0),
            () -> x.handOver(10), () -> x.spread(10), () -> x.look(10, 0), () -> x.put(10, 0, 0),
            () -> x.get(10, 0), () -> x.held(10, 0, 0), () -> x.known(10, 0), () -> x.hop(0),
            () -> x.join(-1, 10), () -> x.look(10, 256), () -> x.put(10, 0, -1), () -> x.held(10, 0, 9),
        };
        for (int i = 0; i < calls.length; i++) {
            Check.none("call " + i + " before it is open", calls[i]);
        }
    }

    private static void refusedCallsChangeNothing() {
        KeyRing x = eight();
        x.put(0, 3, 9);
        x.look(0, 200);
        x.rounds(3);
        x.fail(90);
        String before = state(x);
        IntSupplier[] calls = {
            () -> x.depth(5), () -> x.depth(3), () -> x.found(256), () -> x.found(7), x::open,
            () -> x.join(7, 90), () -> x.join(256, 0), () -> x.join(90, 0), () -> x.join(180, 0),
            () -> x.fail(90), () -> x.stabilise(90), () -> x.mend(0, 8), () -> x.mend(90, 0),
            () -> x.handOver(90), () -> x.spread(90), () -> x.rounds(41), () -> x.look(90, 0),
            () -> x.look(0, 256), () -> x.hop(9), () -> x.put(90, 0, 0), () -> x.put(0, 64, 0),
            () -> x.put(0, 3, -1), () -> x.get(90, 3), () -> x.get(0, 64), () -> x.held(0, 3, 3),
            () -> x.known(0, 5), () -> x.owner(256), () -> x.count(8),
        };
        for (int i = 0; i < calls.length; i++) {
            Check.due("call " + i + " is refused", Check.answer(calls[i]).endsWith("Exception"), true);
            Check.due("call " + i + " changes nothing", state(x).equals(before), true);
        }
        KeyRing y = ring(2, 10, 80, 150);
        String few = state(y);
        Check.state("fail(10) of three", () -> y.fail(10));
        Check.due("nor does this", state(y).equals(few), true);
    }

    private static String state(KeyRing x) {
        StringBuilder all = new StringBuilder();
        for (int what = 0; what < 8; what++) {
            all.append(x.count(what)).append(' ');
        }
        for (int k = 0; k < x.count(6); k++) {
            all.append(x.hop(k)).append(' ');
        }
        for (int p = 0; p < 256; p++) {
            if (x.owner(p) == p) {
                int at = p;
                for (int k = -1; k < 18; k++) {
                    int entry = k;
                    all.append(Check.answer(() -> x.known(at, entry))).append(' ');
                }
                for (int key = 0; key < 64; key++) {
                    all.append(x.held(p, key, 0)).append(x.held(p, key, 1)).append(x.held(p, key, 2)).append(' ');
                }
            }
        }
        return all.toString();
    }
}
