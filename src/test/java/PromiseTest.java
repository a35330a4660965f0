/** A method a promise: ordinary calls, with answers worked out from the document. The edges have tests of their own. */
public final class PromiseTest {
    // Keys by their points: 4 at 5, 1 at 78, 6 at 127, 2 at 139, 3 at 200.

    public static void main(String[] args) {
        Check.sentence("Promise 1: A new object", PromiseTest::newObject);
        Check.sentence("Promise 2: depth", PromiseTest::depth);
        Check.sentence("Promise 3: found", PromiseTest::found);
        Check.sentence("Promise 4: open", PromiseTest::open);
        Check.sentence("Promise 5: join", PromiseTest::join);
        Check.sentence("Promise 6: fail", PromiseTest::fail);
        Check.sentence("Promise 7: stabilise", PromiseTest::stabilise);
        Check.sentence("Promise 8: mend", PromiseTest::mend);
        Check.sentence("Promise 9: handOver", PromiseTest::handOver);
        Check.sentence("Promise 10: spread", PromiseTest::spread);
        Check.sentence("Promise 11: rounds", PromiseTest::rounds);
        Check.sentence("Promise 12: look", PromiseTest::look);
        Check.sentence("Promise 13: hop", PromiseTest::hop);
        Check.sentence("Promise 14: put", PromiseTest::put);
        Check.sentence("Promise 15: get", PromiseTest::get);
        Check.sentence("Promise 16: held", PromiseTest::held);
        Check.sentence("Promise 17: known", PromiseTest::known);
        Check.sentence("Promise 18: owner", PromiseTest::owner);
        Check.sentence("Promise 19: ideal", PromiseTest::ideal);
        Check.sentence("Promise 20: count", PromiseTest::count);
        Check.end();
    }

    private static void newObject() {
        KeyRing x = new KeyRing();
        Check.due("count(0)", x.count(0), 0);
        Check.due("count(5)", x.count(5), 0);
        Check.due("depth(3)", x.depth(3), 2);
    }

    private static void depth() {
        KeyRing x = new KeyRing();
        Check.due("depth(4)", x.depth(4), 2);
        Check.due("depth(3)", x.depth(3), 4);
        for (int p = 10; p <= 50; p += 10) {
            x.found(p);
        }
        x.open();
        Rings.dueList("depth 3", x, 20, 30, 40, 50);
    }

    private static void found() {
        KeyRing x = new KeyRing();
        Check.due("found(80)", x.found(80), 1);
        Check.due("found(10)", x.found(10), 2);
        Check.due("found(150)", x.found(150), 3);
        Check.due("owner(20)", x.owner(20), 80);
    }

    private static void open() {
        KeyRing x = new KeyRing();
        x.found(200);
        x.found(10);
        x.found(128);
        x.found(40);
        Check.due("open()", x.open(), 4);
        int[] points = {10, 40, 128, 200};
        for (int i = 0; i < 4; i++) {
            Rings.dueList("opened", x, points[i], points[(i + 1) % 4], points[(i + 2) % 4]);
            Check.due("predecessor of " + points[i], x.known(points[i], -1), points[(i + 3) % 4]);
        }
    }

    private static void join() {
        KeyRing x = Rings.four();
        Check.due("join(100, 10)", x.join(100, 10), 150);
        Rings.dueList("joined", x, 100, 150, 220);
        Check.due("join(250, 150)", x.join(250, 150), 10);
        Rings.dueList("joined", x, 250, 10, 80);
        Check.due("count(0)", x.count(0), 6);
    }

    private static void fail() {
        KeyRing x = Rings.eight();
        Check.due("fail(60)", x.fail(60), 7);
        Check.due("fail(150)", x.fail(150), 6);
        Check.due("count(1)", x.count(1), 2);
        Check.due("look(30, 40)", x.look(30, 40), 90);
        Check.due("owner(140)", x.owner(140), 180);
    }

    private static void stabilise() {
        KeyRing x = Rings.four();
        x.join(100, 10);
        Check.due("stabilise(100)", x.stabilise(100), 150);
        Check.due("150 is told of 100", x.known(150, -1), 100);
        Check.due("stabilise(80)", x.stabilise(80), 100);
        Rings.dueList("80", x, 80, 100, 150);
        Check.due("100 is told of 80", x.known(100, -1), 80);
        Check.due("stabilise(10)", x.stabilise(10), 80);
        Rings.dueList("10", x, 10, 80, 100);
    }

    private static void mend() {
        KeyRing x = Rings.four();
        Check.due("mend(10, 7), at 138", x.mend(10, 7), 150);
        Check.due("mend(10, 6), at 74", x.mend(10, 6), 80);
        Check.due("known(10, 17)", x.known(10, 17), 150);
        Check.due("known(10, 16)", x.known(10, 16), 80);
        x.join(100, 10);
        Check.due("as looked for: mend(80, 4), at 96", x.mend(80, 4), 150);
    }

    private static void handOver() {
        KeyRing x = Rings.four();
        x.put(10, 2, 5);
        x.put(10, 6, 7);
        x.put(10, 1, 9);
        Rings.joinAndTell(x, 140);
        Check.due("handOver(140)", x.handOver(140), 2);
        Rings.duePair("got", x, 140, 2, 1, 150, 5);
        Rings.duePair("got", x, 140, 6, 1, 150, 7);
        Rings.dueNoPair("of 80", x, 140, 1);
    }

    private static void spread() {
        KeyRing x = Rings.four();
        x.put(10, 1, 500);
        x.put(10, 2, 600);
        Rings.joinAndTell(x, 100);
        Check.due("spread(80)", x.spread(80), 1);
        Rings.duePair("copied", x, 100, 1, 1, 80, 500);
        Rings.dueNoPair("of 150", x, 100, 2);
    }

    private static void rounds() {
        KeyRing x = Rings.four();
        x.put(80, 4, 3);
        x.join(5, 10);
        Check.due("the first round", x.rounds(1), 0);
        Check.due("the second round hands key 4 to 5", x.rounds(1), 1);
        Rings.duePair("got", x, 5, 4, 1, 10, 3);
        Check.due("six more", x.rounds(6), 0);
        Rings.dueFingers("eight fingers", x, 10, 80, 80, 80, 80, 80, 80, 80, 150);
        Check.due("count(3)", x.count(3), 40);
        Check.due("ideal()", x.ideal(), true);
    }

    private static void look() {
        KeyRing x = Rings.eight();
        Check.due("look(0, 100)", x.look(0, 100), 120);
        Check.due("look(30, 200)", x.look(30, 200), 210);
        Check.due("look(180, 45)", x.look(180, 45), 60);
    }

    private static void hop() {
        KeyRing x = Rings.eight();
        x.look(0, 200);
        Rings.dueHops("look(0, 200)", x, 60, 120, 180);
        x.look(180, 45);
        Rings.dueHops("look(180, 45)", x, 0, 30);
    }

    private static void put() {
        KeyRing x = Rings.four();
        Check.due("put(220, 1, 7)", x.put(220, 1, 7), 1);
        Rings.duePair("the owner", x, 80, 1, 1, 80, 7);
        Rings.duePair("its list", x, 150, 1, 1, 80, 7);
        Rings.duePair("its list", x, 220, 1, 1, 80, 7);
        Rings.dueNoPair("no other", x, 10, 1);
        Check.due("put(80, 1, 8)", x.put(80, 1, 8), 2);
        Rings.duePair("its list", x, 220, 1, 2, 80, 8);
    }

    private static void get() {
        KeyRing x = Rings.four();
        x.put(10, 2, 5);
        Check.due("by the owner", x.get(150, 2), 5);
        Check.due("by another", x.get(10, 2), 5);
        x.fail(150);
        Check.due("of the next one", x.get(10, 2), 5);
    }

    private static void held() {
        KeyRing x = Rings.four();
        x.put(10, 1, 500);
        x.put(10, 1, 501);
        Rings.duePair("put twice", x, 150, 1, 2, 80, 501);
        Rings.dueNoPair("never put", x, 150, 2);
    }

    private static void known() {
        KeyRing x = Rings.four();
        x.mend(150, 3);
        Rings.dueList("150", x, 150, 220, 10);
        Check.due("known(150, -1)", x.known(150, -1), 80);
        Rings.dueFingers("150", x, 150, -1, -1, -1, 220, -1, -1, -1, -1);
    }

    private static void owner() {
        KeyRing x = Rings.four();
        x.join(100, 10);
        Check.due("owner(85)", x.owner(85), 100);
        Check.due("owner(101)", x.owner(101), 150);
        Check.due("owner(230)", x.owner(230), 10);
    }

    private static void ideal() {
        KeyRing x = Rings.four();
        Check.due("opened", x.ideal(), true);
        x.join(100, 10);
        Check.due("joined", x.ideal(), false);
        x.rounds(3);
        Check.due("mended", x.ideal(), true);
    }

    private static void count() {
        KeyRing x = Rings.eight();
        Rings.dueCounts("opened", x, 8, 0, 0, 0, 8, 1, 0, 0);
        x.put(0, 3, 9);
        Rings.dueCounts("key 3 from 0, hops 60, 120, 180; at 210, 0, 30", x, 8, 0, 3, 0, 8, 1, 0, 3);
        x.mend(0, 5);
        Rings.dueCounts("a finger at 32, hop 30", x, 8, 0, 3, 1, 8, 1, 0, 4);
        x.look(30, 100);
        Rings.dueCounts("hop 90", x, 8, 0, 3, 1, 8, 1, 1, 5);
        x.join(45, 30);
        Rings.dueCounts("30 does not know 45, nor does finger 5 of 0", x, 9, 0, 3, 0, 8, 1, 1, 5);
        x.fail(210);
        Rings.dueCounts("180 knows 0 as well", x, 8, 1, 2, 0, 7, 1, 1, 5);
    }
}
