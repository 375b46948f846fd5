/** Promise 19: turn. */
public final class Promise19TurnTest extends TestBase {
    public static void main(String[] args) throws ReflectiveOperationException {
        due.runTests(Promise19TurnTest.class, "promise19_");
    }

    static void promise19_stepsFromMinus100To100() {
        CabinChain x = new CabinChain();
        x.stop(true);
        due.is("100", x.turn(100), 0);
        due.is("moved", x.count(2), 100 % 24);
        due.is("-100", x.turn(-100), 0);
        due.is("moved back", x.count(2), 0);
        for (int steps : new int[] {101, -101, LEAST, MOST}) {
            refused("steps " + steps, (y, s) -> y.turn(steps), BAD);
        }
    }

    static void promise19_notStopped() {
        for (int steps : new int[] {0, 1, -1, 100, -100}) {
            for (State state : new State[] {State.NEW, State.CROWD, State.LATE}) {
                refusedIn(state, "steps " + steps, (x, s) -> x.turn(steps), NO);
            }
        }
    }

    static void promise19_badAheadOfNo() {
        refusedIn(State.CROWD, "101", (x, s) -> x.turn(101), BAD);
        refusedIn(State.CROWD, "-101", (x, s) -> x.turn(-101), BAD);
    }

    static void promise19_noStepWithNobodyAtADoorChangesNothing() {
        CabinChain x = State.BUSY.make().get();
        due.is("none", x.turn(0), 0);
        due.same("as it was", Sight.of(x), Sight.of(State.BUSY.make().get()));
    }

    static void promise19_forthAndBackRound() {
        CabinChain x = new CabinChain();
        x.stop(true);
        x.turn(-1);
        due.is("back from 0", x.count(2), 23);
        x.turn(1);
        due.is("forth to 0", x.count(2), 0);
        x.turn(23);
        due.is("a step short of a round", x.count(2), 23);
        x.turn(2);
        due.is("round", x.count(2), 1);
        x.turn(24);
        due.is("a whole round", x.count(2), 1);
        x.turn(-48);
        due.is("two rounds back", x.count(2), 1);
    }

    static void promise19_noStepLetsOutWhereItStands() {
        CabinChain x = made(3, 4, 3, 1);
        child(x, 0, 0, 0, 2);
        x.ticks(1);
        x.stop(true);
        due.is("one", x.turn(0), 1);
        due.is("stands at 0", x.stands(0, 0), 0);
        due.is("the box is empty", x.box(0, 3), 0);
        due.is("none is left", x.turn(0), 0);
    }

    /** One in box 0, stopped at place 1, with doors open for three steps of four. */
    private static CabinChain stoppedInBox0() {
        CabinChain x = made(3, 4, 3, 1);
        child(x, 0, 0, 0, 2);
        x.ticks(1);
        x.stop(true);
        return x;
    }

    static void promise19_letOutWherePhaseIsBelowW() {
        due.is("phase 2", stoppedInBox0().turn(1), 1);
        due.is("phase 3", stoppedInBox0().turn(2), 0);
        due.is("phase 0 at the next floor", stoppedInBox0().turn(3), 1);
        due.is("phase 0 at this one", stoppedInBox0().turn(-1), 1);
        due.is("phase 3 under the bottom", stoppedInBox0().turn(-2), 0);
        due.is("phase 2 under the bottom", stoppedInBox0().turn(-3), 0);
        due.is("phase 0 under the bottom", stoppedInBox0().turn(-5), 0);
        due.is("phase 3 down at 0", stoppedInBox0().turn(-6), 0);
        due.is("phase 2 down at 0", stoppedInBox0().turn(-7), 1);
        due.is("phase 3 up at the top", stoppedInBox0().turn(10), 0);
        due.is("phase 0 over the top", stoppedInBox0().turn(11), 0);
        due.is("phase 2 over the top", stoppedInBox0().turn(13), 0);
        due.is("phase 0 down at the top", stoppedInBox0().turn(15), 1);
    }

    static void promise19_notAtAShutDoor() {
        CabinChain x = stoppedInBox0();
        x.shut(1, true);
        due.is("shut", x.turn(3), 0);
        x.shut(1, false);
        due.is("open", x.turn(0), 1);
    }

    static void promise19_notOnTheWay() {
        CabinChain x = stoppedInBox0();
        due.is("past two floors to the step behind the second", x.turn(10), 0);
        due.is("in its box", x.about(0, 1), 0);
        due.is("counted", x.counted(1, 1) + x.counted(2, 1), 0);
    }

    static void promise19_atItsFloorItIsDone() {
        CabinChain x = stoppedInBox0();
        x.ticks(4);
        due.is("one", x.turn(7), 1);
        due.is("done", x.about(0, 0), DONE);
        due.is("now", x.about(0, 2), 5);
        due.is("at cost", x.about(0, 4), 5);
        due.is("in no line", x.stands(2, 0), NONE);
        due.is("none stands", x.count(4), 0);
    }

    static void promise19_standsBehindAll() {
        CabinChain x = made(3, 4, 3, 1);
        child(x, 0, 0, 0, 2);
        add(x, 1, 0, 1, 2, 1, 6, 0);
        add(x, 2, 0, 1, 2, 1, 6, 0);
        x.ticks(1);
        x.stop(true);
        due.is("one", x.turn(3), 1);
        due.is("behind both", x.stands(1, 2), 0);
    }

    static void promise19_byBoxes() {
        CabinChain x = made(3, 4, 3, 1);
        child(x, 0, 0, 1, 0);
        child(x, 1, 0, 1, 2);
        x.ticks(1);
        due.is("0 in box 5", x.about(0, 1), 5);
        due.is("1 in box 1", x.about(1, 1), 1);
        x.stop(true);
        due.is("both", x.turn(1), 2);
        due.is("of box 1", x.stands(1, 0), 1);
        due.is("of box 5", x.stands(1, 1), 0);
        due.is("out at 1", x.counted(1, 1), 2);
    }

    static void promise19_thenByNumbers() {
        CabinChain x = made(3, 4, 3, 1);
        child(x, 0, 1, 0, 2);
        child(x, 1, 0, 0, 2);
        x.ticks(2);
        due.is("1 was in first", x.box(0, 4), 3);
        x.stop(true);
        due.is("both", x.turn(2), 2);
        due.is("the lower number", x.stands(1, 0), 0);
        due.is("the higher", x.stands(1, 1), 1);
    }

    static void promise19_aFullBox() {
        CabinChain x = made(2, 12, 12, 1);
        for (int i = 0; i < 4; i++) {
            child(x, i, 0, 0, 1);
        }
        x.ticks(4);
        x.stop(true);
        due.is("four", x.turn(0), 4);
        due.is("widths", x.box(0, 3), 0);
        due.is("the last in line", x.stands(0, 3), 3);
    }

    static void promise19_thirtyInOneLineAgain() {
        CabinChain x = new CabinChain();
        for (int i = 0; i < 30; i++) {
            child(x, i, 0, 0, 1);
        }
        x.ticks(2);
        x.stop(true);
        due.is("two", x.turn(-1), 2);
        due.is("the first is last but one", x.stands(0, 28), 0);
        due.is("the second is last", x.stands(0, 29), 1);
        due.is("none behind", x.stands(0, 30), NONE);
    }

    static void promise19_mayStepInAgainInTheNextTick() {
        CabinChain x = stoppedInBox0();
        x.turn(0);
        x.ticks(1);
        due.is("in the same box", x.about(0, 1), 0);
        due.is("counted in twice", x.counted(0, 0), 2);
        due.is("counted out once", x.counted(0, 1), 1);
    }

    static void promise19_needIsNothingToIt() {
        CabinChain x = made(2, 6, 6, 1);
        add(x, 0, 0, 0, 1, 1, 6, 0);
        x.ticks(6);
        due.is("in box 5", x.about(0, 1), 5);
        x.stop(true);
        due.is("one", x.turn(5), 1);
        due.is("one tick is left", x.left(), 1);
        due.is("out at 0", x.counted(0, 1), 1);
    }

    static void promise19_noneIsTurnedByIt() {
        CabinChain x = stoppedInBox0();
        shutAll(x, 3);
        x.turn(11);
        due.is("over by hand", x.box(0, 1), 100);
        due.is("not turned", x.about(0, 3), 0);
        x.ticks(1);
        due.is("nor by a stopped tick", x.about(0, 3), 0);
        x.stop(false);
        x.ticks(1);
        due.is("nor by going on there", x.about(0, 3), 0);
        x.stop(true);
        x.turn(-14);
        due.is("under by hand", x.box(0, 1), 101);
        due.is("not turned", x.about(0, 3), 0);
    }

    static void promise19_turnedBackItComesOverAgain() {
        CabinChain x = stoppedInBox0();
        shutAll(x, 3);
        x.turn(11);
        x.turn(-1);
        x.stop(false);
        x.ticks(1);
        due.is("over by a tick", x.about(0, 3), 1);
        x.stop(true);
        x.turn(-1);
        x.stop(false);
        x.ticks(1);
        due.is("once more", x.about(0, 3), 2);
    }

    /** Two boxes that are let out one after the other, by as many steps as the wheel tells. */
    static void promise19_oneBoxAfterTheOther() {
        CabinChain x = stoppedApart();
        due.is("both", x.wheel(), 7);
        due.is("the first", x.turn(-2), 1);
        due.is("is done", x.about(1, 2), 9);
        due.is("the other is in", x.about(0, 0), IN_BOX);
        due.is("the rest", x.wheel(), 5);
        due.is("the other", x.turn(5), 1);
        due.is("is done too", x.about(0, 2), 9);
        due.is("moved", x.count(2), 12);
        due.is("nobody", x.wheel(), 0);
    }

    static void promise19_letOutWhereOthersStandAndAllGoOn() {
        CabinChain x = made(3, 4, 3, 1);
        add(x, 0, 4, 0, 2, 2, 1, 0);
        add(x, 1, 0, 0, 2, 2, 1, 0);
        add(x, 2, 4, 0, 2, 2, 1, 0);
        add(x, 3, 7, 1, 2, 2, 1, 0);
        add(x, 4, 8, 1, 2, 1, 6, 0);
        x.ticks(9);
        due.is("a full box", x.box(7, 4), 5);
        x.stop(true);
        due.is("both of it", x.turn(0), 2);
        int[] line = {3, 4, 0, 2};
        for (int i = 0; i < line.length; i++) {
            due.is("place " + i, x.stands(1, i), line[i]);
        }
        x.ticks(1);
        due.is("who was there first steps in", x.about(3, 0), IN_BOX);
        x.ticks(1);
        due.is("and so does who was let out", x.about(0, 0), IN_BOX);
        due.is("in at 1", x.counted(1, 0), 2);
        due.is("out at 1", x.counted(1, 1), 2);
    }

    static void promise19_ticksStay() {
        CabinChain x = stoppedInBox0();
        x.turn(5);
        due.is("ticks", x.count(1), 1);
    }
}
