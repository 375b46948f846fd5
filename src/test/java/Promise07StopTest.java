/** Promise 7: stop. */
public final class Promise07StopTest extends TestBase {
    public static void main(String[] args) throws ReflectiveOperationException {
        due.runTests(Promise07StopTest.class, "promise7_");
    }

    static void promise7_whatWas() {
        CabinChain x = new CabinChain();
        due.is("goes on as it did", x.stop(false), 0);
        due.is("stopped", x.stop(true), 0);
        due.is("stopped again", x.stop(true), 1);
        due.is("goes on", x.stop(false), 1);
        due.is("goes on again", x.stop(false), 0);
    }

    static void promise7_stoppedItDoesNotMove() {
        CabinChain x = new CabinChain();
        x.ticks(23);
        x.stop(true);
        due.is("ticks go on", x.ticks(5), 28);
        due.is("nothing moves", x.count(2), 23);
        x.stop(false);
        x.ticks(1);
        due.is("moves on, round", x.count(2), 0);
    }

    static void promise7_stopsAtOnceWhereItIs() {
        CabinChain x = new CabinChain();
        x.ticks(3);
        x.stop(true);
        due.is("between floors", x.left(), 0);
        due.is("moved", x.count(2), 3);
    }

    static void promise7_toldTwiceIsAsOnce() {
        CabinChain x = State.BUSY.make().get();
        x.stop(true);
        due.same("stopped twice", Sight.of(x), Sight.of(State.BUSY.make().get()));
        CabinChain y = State.CROWD.make().get();
        y.stop(false);
        due.same("goes on twice", Sight.of(y), Sight.of(State.CROWD.make().get()));
    }
}
