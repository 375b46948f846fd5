/** Promise 24: keep. */
public final class Promise24KeepTest extends TestBase {
    public static void main(String[] args) throws ReflectiveOperationException {
        due.runTests(Promise24KeepTest.class, "promise24_");
    }

    static void promise24_threeThenFull() {
        CabinChain x = new CabinChain();
        due.is("first", x.keep(), 1);
        due.is("second", x.keep(), 2);
        due.is("third", x.keep(), 3);
        due.is("fourth", x.keep(), FULL);
        due.is("three", x.count(7), 3);
    }

    static void promise24_fullChangesNothing() {
        refusedIn(State.CROWD, "fourth", (x, s) -> x.keep(), FULL);
        CabinChain x = new CabinChain();
        child(x, 0, 0, 0, 1);
        x.keep();
        x.keep();
        x.keep();
        x.speed(2);
        due.is("fourth, other than the three", x.keep(), FULL);
        for (int i = 0; i < 3; i++) {
            due.is("day " + i + " is as it was", x.beside(i, 2), 3 - 1);
        }
    }

    static void promise24_onlyTheKeptOnesChange() {
        CabinChain x = State.BUSY.make().get();
        due.is("third", x.keep(), 3);
        due.is("in boxes", x.count(3), 1);
        due.is("moved", x.count(2), 8);
        due.is("stopped", x.stop(true), 1);
        due.is("shut", x.shut(3, true), 1);
        due.is("ticks", x.ticks(1), 9);
    }

    static void promise24_withNobody() {
        CabinChain x = new CabinChain();
        due.is("keep", x.keep(), 1);
        child(x, 0, 0, 0, 1);
        for (int what = 0; what <= 2; what++) {
            due.is("of nobody", x.beside(0, what), 0);
        }
    }

    static void promise24_withThirty() {
        CabinChain x = State.CROWD.make().get();
        for (int what = 0; what <= 2; what++) {
            due.is("alike", x.beside(2, what), 0);
        }
        x.speed(2);
        due.isTrue("unlike", x.beside(2, 0) + x.beside(2, 1) > 0);
    }

    /** The day is kept, not what has gone on till now. */
    static void promise24_theWholeDay() {
        CabinChain x = new CabinChain();
        child(x, 0, 0, 0, 1);
        x.shut(0, true);
        ticksTo(x, 1500);
        due.is("keep", x.keep(), 1);
        due.is("as it is now", x.about(0, 4), 1000);
        x.speed(2);
        due.is("3 then, 1 now", x.beside(0, 2), 2);
    }

    static void promise24_staysAnewGoesWithTheHouse() {
        CabinChain x = new CabinChain();
        x.keep();
        x.ticks(5);
        x.anew();
        due.is("anew", x.count(7), 1);
        due.is("second", x.keep(), 2);
        x.house(2, 4, 3, 1);
        due.is("first again", x.keep(), 1);
    }
}
