/** Promise 5: anew. */
public final class Promise05AnewTest extends TestBase {
    public static void main(String[] args) throws ReflectiveOperationException {
        due.runTests(Promise05AnewTest.class, "promise5_");
    }

    static void promise5_howManyTicksThereWere() {
        due.is("at first", new CabinChain().anew(), 0);
        CabinChain x = new CabinChain();
        x.ticks(1);
        due.is("one", x.anew(), 1);
        due.is("again", x.anew(), 0);
        due.is("2000", State.LATE.make().get().anew(), 2000);
    }

    static void promise5_atFirstItChangesNothing() {
        CabinChain x = new CabinChain();
        x.anew();
        due.same("new", Sight.of(x), Sight.of(new CabinChain()));
        CabinChain y = told();
        y.anew();
        due.same("told", Sight.of(y), Sight.of(told()));
    }

    /** Told, kept and sped, but nothing has gone on yet. */
    private static CabinChain told() {
        CabinChain x = made(3, 4, 3, 1);
        add(x, 0, 0, 0, 2, 2, 1, 0);
        add(x, 1, 1, 2, 1, 1, 2, 1);
        due.is("walker", x.person(2, 0, 1, 1, 1, 0, 1), 2);
        add(x, 3, 0, 1, 0, 2, 6, 0);
        x.keep();
        x.speed(2);
        x.tell(0, 0, 4);
        x.tell(2, 1, 0);
        return x;
    }

    static void promise5_allThatHasGoneOnIsGone() {
        CabinChain x = told();
        x.ticks(3);
        x.shut(1, true);
        x.shut(2, true);
        x.ticks(20);
        x.stop(true);
        x.turn(-7);
        x.ticks(2);
        due.is("anew", x.anew(), 25);
        due.same("as at first", Sight.of(x), Sight.of(told()));
    }

    static void promise5_allHaveYetToCome() {
        CabinChain x = State.CROWD.make().get();
        x.anew();
        for (int p = 0; p < 30; p++) {
            due.is("person " + p, x.about(p, 0), YET_TO_COME);
            due.is("turned", x.about(p, 3), 0);
        }
        due.is("in boxes", x.count(3), 0);
        due.is("standing", x.count(4), 0);
        due.is("walking", x.count(5), 0);
        due.is("done", x.count(6), 0);
    }

    static void promise5_ticksAndMovedAre0() {
        CabinChain x = State.BUSY.make().get();
        x.anew();
        due.is("ticks", x.count(1), 0);
        due.is("moved", x.count(2), 0);
    }

    static void promise5_noDoorIsShutNothingStopped() {
        CabinChain x = State.BUSY.make().get();
        x.anew();
        due.is("stop was", x.stop(false), 0);
        due.is("shut was", x.shut(3, false), 0);
    }

    static void promise5_peopleSpeedToldAndKeptStay() {
        CabinChain x = State.CROWD.make().get();
        x.speed(2);
        x.anew();
        due.is("people", x.count(0), 30);
        due.is("kept", x.count(7), 3);
        due.is("told", x.count(8), 16);
        due.is("speed", x.speed(1), 2);
    }

    /** All have yet to come, so none has stepped in or out yet. */
    static void promise5_countsAre0() {
        CabinChain x = State.CROWD.make().get();
        int in = 0;
        for (int floor = 0; floor < 8; floor++) {
            in += x.counted(floor, 0);
        }
        due.isTrue("some had stepped in", in > 0);
        x.anew();
        for (int floor = 0; floor < 8; floor++) {
            due.is("in", x.counted(floor, 0), 0);
            due.is("out", x.counted(floor, 1), 0);
        }
    }

    static void promise5_ticksMayBePlayedAgainFrom2000() {
        CabinChain x = State.LATE.make().get();
        due.is("full", x.ticks(1), FULL);
        x.anew();
        due.is("from 0", x.ticks(200), 200);
    }

    static void promise5_playsAsBefore() {
        CabinChain x = new CabinChain();
        child(x, 0, 0, 0, 1);
        x.ticks(1);
        x.shut(1, true);
        x.ticks(30);
        x.anew();
        x.ticks(4);
        due.is("done in", x.about(0, 2), 3);
    }
}
