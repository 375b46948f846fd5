/** Promise 6: ticks. */
public final class Promise06TicksTest extends TestBase {
    public static void main(String[] args) throws ReflectiveOperationException {
        due.runTests(Promise06TicksTest.class, "promise6_");
    }

    static void promise6_from1To200() {
        due.is("1", new CabinChain().ticks(1), 1);
        due.is("200", new CabinChain().ticks(200), 200);
        for (int n : new int[] {0, 201, -1, -200, LEAST, MOST}) {
            refused("ticks " + n, (x, s) -> x.ticks(n), BAD);
        }
    }

    static void promise6_to2000AndNotBeyond() {
        CabinChain x = new CabinChain();
        for (int i = 1; i <= 9; i++) {
            due.is("ticks 200", x.ticks(200), 200 * i);
        }
        due.is("to 1801", x.ticks(1), 1801);
        due.is("to 2001", x.ticks(200), FULL);
        due.is("to 2000", x.ticks(199), 2000);
        due.is("to 2001 by one", x.ticks(1), FULL);
        due.is("2000", x.count(1), 2000);
    }

    static void promise6_to2000ByOne() {
        CabinChain x = new CabinChain();
        ticksTo(x, 1999);
        due.is("to 2001", x.ticks(2), FULL);
        due.is("1999 still", x.count(1), 1999);
        due.is("to 2000", x.ticks(1), 2000);
    }

    static void promise6_to2000By200() {
        CabinChain x = new CabinChain();
        ticksTo(x, 1800);
        due.is("to 2000", x.ticks(200), 2000);
    }

    static void promise6_fullChangesNothing() {
        refusedIn(State.LATE, "one more", (x, s) -> x.ticks(1), FULL);
        refusedIn(State.LATE, "200 more", (x, s) -> x.ticks(200), FULL);
    }

    /** None of the ticks that there would be room for is played. */
    static void promise6_fullPlaysNoTickAtAll() {
        CabinChain x = made(2, 12, 12, 4);
        ticksTo(x, 1990);
        int moved = x.count(2);
        due.is("eleven", x.ticks(11), FULL);
        due.is("moved", x.count(2), moved);
        due.is("ticks", x.count(1), 1990);
        due.is("ten", x.ticks(10), 2000);
    }

    static void promise6_badAheadOfFull() {
        refusedIn(State.LATE, "0", (x, s) -> x.ticks(0), BAD);
        refusedIn(State.LATE, "201", (x, s) -> x.ticks(201), BAD);
        refusedIn(State.LATE, "most", (x, s) -> x.ticks(MOST), BAD);
    }

    static void promise6_manyAtOnceAreAsOneByOne() {
        CabinChain x = State.CROWD.make().get();
        CabinChain y = State.CROWD.make().get();
        x.ticks(30);
        for (int i = 0; i < 30; i++) {
            y.ticks(1);
        }
        due.same("after thirty", Sight.of(x), Sight.of(y));
    }

    static void promise6_stoppedTicksCount() {
        CabinChain x = State.BUSY.make().get();
        due.is("ticks", x.ticks(5), 13);
        due.is("moved", x.count(2), 8);
    }

    /** 2000 ticks at 1 step, and 2000 at 4 steps, are many rounds. */
    static void promise6_movedAfter2000() {
        CabinChain x = new CabinChain();
        ticksTo(x, 2000);
        due.is("on 24 steps", x.count(2), 2000 % 24);
        due.is("late", State.LATE.make().get().count(2), 8000 % 72);
    }
}
