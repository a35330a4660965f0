/** A test for each boundary case that the document names where it tells how a point is looked for. */
public final class LookingEdgeTest {
    public static void main(String[] args) {
        Check.sentence("if the point is n, n is its owner", LookingEdgeTest::thePointIsTheMember);
        Check.sentence("If it is n's successor, or between n and that, that is its owner",
                LookingEdgeTest::upToTheSuccessor);
        Check.sentence("Else it goes on, a HOP", LookingEdgeTest::pastTheSuccessor);
        Check.sentence("n's live fingers", LookingEdgeTest::liveFingers);
        Check.sentence("live ones of its list", LookingEdgeTest::liveOnesOfTheList);
        Check.sentence("that lie between n and the point", LookingEdgeTest::onlyThoseAheadOfThePoint);
        Check.sentence("that comes last, going up from n", LookingEdgeTest::theLastOne);
        Check.sentence("a HOP", LookingEdgeTest::asManyHopsAsThereMayBe);
        Check.end();
    }

    private static void thePointIsTheMember() {
        KeyRing x = Rings.four();
        x.join(100, 80);
        Check.due("look(100, 100)", x.look(100, 100), 100);
        Rings.dueHops("look(100, 100)", x);
        Check.due("nobody else knows it: look(80, 100)", x.look(80, 100), 150);
        KeyRing y = Rings.of(2, 0, 100, 255);
        Check.due("look(0, 0)", y.look(0, 0), 0);
        Check.due("look(255, 255)", y.look(255, 255), 255);
        Check.due("no hops", y.count(7), 0);
    }

    private static void upToTheSuccessor() {
        KeyRing x = Rings.eight();
        Check.due("one above n", x.look(30, 31), 60);
        Check.due("one below its successor", x.look(30, 59), 60);
        Check.due("its successor", x.look(30, 60), 60);
        Check.due("over the top", x.look(210, 211), 0);
        Check.due("over the top", x.look(210, 255), 0);
        Check.due("over the top", x.look(210, 0), 0);
        x.fail(60);
        Check.due("its successor failed", x.look(30, 31), 90);
        Check.due("the point of one that failed", x.look(30, 60), 90);
        Check.due("the successor then", x.look(30, 90), 90);
        Check.due("no hops", x.count(7), 0);
    }

    private static void pastTheSuccessor() {
        KeyRing x = Rings.eight();
        Check.due("one past the successor", x.look(30, 61), 90);
        Rings.dueHops("one past the successor", x, 60);
        Check.due("the second of the list", x.look(30, 90), 90);
        Rings.dueHops("the second of the list", x, 60);
        Check.due("one past that", x.look(30, 91), 120);
        Rings.dueHops("one past that", x, 90);
        Check.due("one below n", x.look(30, 29), 30);
        Rings.dueHops("one below n", x, 90, 150, 210, 0);
        Check.due("in all", x.count(7), 7);
    }

    private static void liveFingers() {
        KeyRing x = Rings.eight();
        x.look(0, 200);
        Rings.dueHops("no fingers yet", x, 60, 120, 180);
        Check.due("mend(0, 7)", x.mend(0, 7), 150);
        x.look(0, 200);
        Rings.dueHops("finger 7", x, 150, 180);
        x.fail(150);
        Check.due("finger 7 failed", x.look(0, 200), 210);
        Rings.dueHops("finger 7 failed", x, 60, 120, 180);
        Check.due("and is told all the same", x.known(0, 17), 150);
    }

    private static void liveOnesOfTheList() {
        KeyRing x = Rings.eight();
        x.fail(60);
        Check.due("the second of 0 failed, the first of 30", x.look(0, 100), 120);
        Rings.dueHops("the second of 0 failed, the first of 30", x, 30, 90);
    }

    private static void onlyThoseAheadOfThePoint() {
        KeyRing x = Rings.eight();
        x.mend(0, 7);
        Check.due("look(0, 149)", x.look(0, 149), 150);
        Rings.dueHops("finger 150 is past 149", x, 60, 120);
        x.look(0, 150);
        Rings.dueHops("finger 150 is not between 0 and 150", x, 60, 120);
        x.look(0, 151);
        Rings.dueHops("finger 150 is between 0 and 151", x, 150);
        KeyRing y = Rings.of(2, 10, 20, 30);
        Check.due("a finger that is its member", y.mend(10, 7), 10);
        Check.due("look(10, 5)", y.look(10, 5), 10);
        Rings.dueHops("it is not between itself and another", y, 30);
    }

    private static void theLastOne() {
        KeyRing x = Rings.eight();
        Check.due("look(180, 20)", x.look(180, 20), 30);
        Rings.dueHops("0 comes after 210", x, 0);
        Check.due("look(210, 100)", x.look(210, 100), 120);
        Rings.dueHops("30 comes after 0", x, 30, 90);
        x.mend(0, 0);
        x.look(0, 200);
        Rings.dueHops("60 of the list comes after finger 30", x, 60, 120, 180);
        x.mend(180, 7);
        Check.due("finger 7 of 180 is at 308 - 256", x.known(180, 17), 60);
        x.look(180, 61);
        Rings.dueHops("finger 60 comes after 210 and 0 of the list", x, 60);
        x.mend(0, 6);
        x.mend(0, 7);
        x.look(0, 200);
        Rings.dueHops("finger 7 at 150 comes after finger 6 at 90", x, 150, 180);
        x.look(0, 140);
        Rings.dueHops("finger 6 at 90 comes after 60 of the list", x, 90, 120);
    }

    /** Nineteen members who each know the next one alone, and one below the second who begins. */
    private static void asManyHopsAsThereMayBe() {
        int[] points = new int[19];
        int[] hops = new int[19];
        for (int i = 0; i < 19; i++) {
            points[i] = 1 + 13 * i;
            hops[i] = 1 + 13 * ((i + 1) % 19);
        }
        KeyRing x = Rings.of(2, points);
        for (int p : points) {
            x.join(p + 5, p);
            x.stabilise(p + 5);
            x.stabilise(p);
            x.fail(p + 5);
        }
        Check.due("join(3, 1)", x.join(3, 1), 14);
        Check.due("all round to 2", x.look(3, 2), 14);
        Rings.dueHops("all others", x, hops);
    }
}
