/** The terms: what goes on in a TICK. */
public final class Terms2TickTest extends TestBase {
    public static void main(String[] args) throws ReflectiveOperationException {
        due.runTests(Terms2TickTest.class, "terms2_");
    }

    static void terms2_theChainMovesVStepsIfItIsNotStopped() {
        for (int v = 1; v <= 4; v++) {
            CabinChain x = made(2, 4, 4, v);
            x.ticks(1);
            due.is("moved", x.count(2), v);
            x.stop(true);
            x.ticks(1);
            due.is("stopped", x.count(2), v);
            x.stop(false);
            x.ticks(1);
            due.is("goes on", x.count(2), 2 * v);
        }
    }

    static void terms2_turnedWhenItComesOverAndUnder() {
        CabinChain x = new CabinChain();
        child(x, 0, 0, 0, 1);
        x.ticks(1);
        x.shut(1, true);
        x.ticks(6);
        due.is("up at 1, its last step", x.about(0, 3), 0);
        x.ticks(1);
        due.is("over", x.box(0, 1), 100);
        due.is("turned", x.about(0, 3), 1);
        x.ticks(3);
        due.is("over still", x.box(0, 1), 100);
        due.is("turned once only", x.about(0, 3), 1);
        x.ticks(8);
        due.is("down at 0", x.box(0, 1), 0);
        due.is("not turned by coming down", x.about(0, 3), 1);
        x.ticks(1);
        due.is("under", x.box(0, 1), 101);
        due.is("turned twice", x.about(0, 3), 2);
        x.shut(1, false);
        x.ticks(10);
        due.is("at last", x.about(0, 2), 27);
        due.is("turned as often", x.about(0, 3), 2);
    }

    static void terms2_turnedWhereEachTickIsAFloor() {
        CabinChain x = made(2, 2, 2, 2);
        child(x, 0, 0, 0, 1);
        int[] turned = {0, 0, 1, 1, 1, 2, 2, 2, 3};
        for (int i = 0; i < turned.length; i++) {
            x.ticks(1);
            x.shut(1, true);
            due.is("turned by tick " + i, x.about(0, 3), turned[i]);
        }
    }

    static void terms2_notTurnedOnceMoreWhileItIsThere() {
        CabinChain x = made(2, 12, 1, 1);
        child(x, 0, 11, 0, 1);
        x.ticks(12);
        due.is("in box 5", x.about(0, 1), 5);
        x.shut(1, true);
        x.ticks(23);
        due.is("up at 1", x.about(0, 3), 0);
        x.ticks(1);
        due.is("over", x.about(0, 3), 1);
        x.ticks(11);
        due.is("its last step over the top", x.box(5, 1), 100);
        due.is("once", x.about(0, 3), 1);
        x.ticks(1);
        due.is("down at 1", x.box(5, 1), 1);
        due.is("once still", x.about(0, 3), 1);
    }

    static void terms2_notTurnedWhileStopped() {
        CabinChain x = made(2, 2, 2, 2);
        child(x, 0, 0, 0, 1);
        x.ticks(1);
        x.shut(1, true);
        x.ticks(2);
        due.is("over", x.about(0, 3), 1);
        x.stop(true);
        x.ticks(3);
        due.is("stands still there", x.about(0, 3), 1);
        x.stop(false);
        x.ticks(1);
        due.is("goes on from there", x.about(0, 3), 1);
    }

    static void terms2_onlyWhoIsInThatBoxIsTurned() {
        CabinChain x = new CabinChain();
        child(x, 0, 0, 0, 1);
        child(x, 1, 4, 0, 1);
        child(x, 2, 0, 0, 1);
        x.shut(1, true);
        x.ticks(8);
        due.is("0 in box 0", x.about(0, 3), 1);
        due.is("1 in box 5", x.about(1, 3), 0);
        due.is("2 in box 0", x.about(2, 3), 1);
    }

    static void terms2_theFirstAndTheLastOfThirtyAreTurned() {
        CabinChain x = new CabinChain();
        child(x, 0, 0, 0, 1);
        for (int i = 1; i < 29; i++) {
            child(x, i, 900, 0, 1);
        }
        child(x, 29, 1, 0, 1);
        x.shut(1, true);
        x.ticks(8);
        due.is("both are over", x.box(0, 4), 1 + (1 << 29));
        due.is("the first", x.about(0, 3), 1);
        due.is("one that has yet to come", x.about(15, 3), 0);
        due.is("the last", x.about(29, 3), 1);
    }

    static void terms2_comesInItsTick() {
        CabinChain x = new CabinChain();
        child(x, 0, 0, 0, 1);
        due.is("tick 0 is not gone by", x.about(0, 0), YET_TO_COME);
        x.ticks(1);
        due.is("in tick 0 it steps in", x.about(0, 1), 0);
        CabinChain y = new CabinChain();
        child(y, 0, 900, 0, 1);
        ticksTo(y, 900);
        due.is("tick 900 is not gone by", y.about(0, 0), YET_TO_COME);
        y.ticks(1);
        due.is("in tick 900 it steps in", y.about(0, 1), 3);
    }

    static void terms2_standsBehindThoseThatStand() {
        CabinChain x = new CabinChain();
        shutAll(x, 2);
        child(x, 0, 1, 0, 1);
        child(x, 1, 0, 0, 1);
        child(x, 2, 1, 0, 1);
        x.ticks(2);
        due.is("first comes, first stands", x.stands(0, 0), 1);
        due.is("then by numbers", x.stands(0, 1), 0);
        due.is("the last", x.stands(0, 2), 2);
    }

    static void terms2_walksIfNoMoreThanStairsApart() {
        CabinChain x = made(8, 2, 1, 1);
        shutAll(x, 8);
        for (int k = 1; k <= 7; k++) {
            due.is("walks up", x.person(0, 0, k, 1, 1, 0, k), 4 * k - 4);
            due.is("walks down", x.person(0, 7, 7 - k, 1, 1, 0, k), 4 * k - 3);
            due.is("not up", x.person(0, 0, k, 1, 1, 0, k - 1), 4 * k - 2);
            due.is("not down", x.person(0, 7, 7 - k, 1, 1, 0, k - 1), 4 * k - 1);
        }
        x.ticks(1);
        for (int p = 0; p < 28; p++) {
            due.is("person " + p, x.about(p, 0), p % 4 < 2 ? WALKS : STANDS);
        }
    }

    static void terms2_walksSixTicksForEachFloor() {
        for (int k = 1; k <= 7; k++) {
            CabinChain x = made(8, 2, 1, 1);
            due.is("person", x.person(5, 7, 7 - k, 1, 1, 0, k), 0);
            shutAll(x, 8);
            x.stop(true);
            ticksTo(x, 5 + 6 * k);
            due.is("walks till then", x.about(0, 0), WALKS);
            x.ticks(1);
            due.is("is done", x.about(0, 0), DONE);
            due.is("in tick", x.about(0, 2), 5 + 6 * k);
            due.is("at cost", x.about(0, 4), 6 * k);
        }
    }

    static void terms2_stepsInIfNeedIsNoMoreThanTicksLeft() {
        CabinChain x = made(2, 6, 6, 1);
        add(x, 0, 0, 0, 1, 1, 6, 0);
        add(x, 1, 0, 0, 1, 1, 5, 0);
        x.ticks(1);
        due.is("five are left", x.left(), 5);
        due.is("who needs five steps in", x.about(1, 1), 0);
        x.ticks(4);
        due.is("who needs six stands", x.about(0, 0), STANDS);
        x.ticks(1);
        due.is("six are left", x.left(), 6);
        due.is("who needs six steps in", x.about(0, 1), 5);
    }

    static void terms2_stepsOutIfNeedIsNoMoreThanTicksLeft() {
        CabinChain x = inBoxNeedingTwo(2, 1);
        x.speed(2);
        x.ticks(2);
        due.is("two are left", x.left(), 2);
        due.is("it is out", x.about(0, 2), 2);
        CabinChain y = inBoxNeedingTwo(2, 1);
        y.speed(4);
        y.ticks(1);
        due.is("at its floor", y.box(0, 1), 1);
        due.is("one is left", y.left(), 1);
        due.is("it misses its floor", y.about(0, 0), IN_BOX);
        y.ticks(1);
        due.is("and goes over the top", y.about(0, 3), 1);
    }

    static void terms2_stepsOutForFearIfNeedIsNoMoreThanTicksLeft() {
        CabinChain x = inBoxNeedingTwo(3, 1);
        x.shut(1, true);
        x.speed(2);
        x.ticks(4);
        due.is("two are left", x.left(), 2);
        due.is("it is out", x.counted(2, 1), 1);
        CabinChain y = inBoxNeedingTwo(3, 1);
        y.shut(1, true);
        y.speed(4);
        y.ticks(2);
        due.is("at the top", y.box(0, 1), 2);
        due.is("it is not out", y.counted(2, 1), 0);
        y.ticks(1);
        due.is("over, for all its fear", y.about(0, 3), 1);
    }

    /** In box 0 after tick 0, at place 1; the doors are open all along. */
    private static CabinChain inBoxNeedingTwo(int floors, int to) {
        CabinChain x = made(floors, 4, 4, 1);
        add(x, 0, 0, 0, to, 1, 2, 1);
        x.ticks(1);
        due.is("in box 0", x.about(0, 1), 0);
        return x;
    }

    static void terms2_aShutDoorLetsNobodyIn() {
        CabinChain x = new CabinChain();
        child(x, 0, 0, 0, 1);
        child(x, 1, 0, 1, 0);
        x.shut(0, true);
        x.ticks(3);
        due.is("at the shut door", x.about(0, 0), STANDS);
        due.is("at the other one", x.about(1, 1), 3);
    }

    static void terms2_aShutDoorLetsNobodyOut() {
        CabinChain x = new CabinChain();
        child(x, 0, 0, 0, 1);
        child(x, 1, 0, 1, 0);
        x.ticks(1);
        x.shut(1, true);
        x.ticks(6);
        due.is("rides past the shut door", x.about(0, 0), IN_BOX);
        due.is("the other is out", x.about(1, 0), DONE);
    }

    static void terms2_fearStepsOutUpAtTheTop() {
        CabinChain x = made(3, 4, 3, 1);
        add(x, 0, 0, 0, 1, 1, 1, 1);
        x.ticks(1);
        x.shut(1, true);
        x.ticks(6);
        due.is("not ahead of the top", x.counted(1, 1) + x.counted(2, 1), 0);
        x.ticks(1);
        due.is("out at the top", x.counted(2, 1), 1);
        due.is("it goes down by box 2 at once", x.about(0, 1), 2);
        due.is("not over the top", x.about(0, 3), 0);
        x.shut(1, false);
        x.ticks(4);
        due.is("done on the way down", x.about(0, 2), 11);
    }

    static void terms2_fearStepsOutDownAtTheBottom() {
        CabinChain x = made(3, 4, 3, 1);
        add(x, 0, 0, 2, 1, 1, 1, 1);
        x.ticks(1);
        due.is("in box 4", x.about(0, 1), 4);
        x.shut(1, true);
        x.ticks(6);
        due.is("not ahead of the bottom", x.counted(1, 1) + x.counted(0, 1), 0);
        x.ticks(1);
        due.is("out at 0", x.counted(0, 1), 1);
        due.is("not under the bottom", x.about(0, 3), 0);
    }

    static void terms2_fearStepsOutNowhereElse() {
        CabinChain x = made(3, 4, 3, 1);
        add(x, 0, 0, 0, 1, 1, 1, 1);
        x.ticks(1);
        x.shut(1, true);
        x.shut(2, true);
        x.ticks(11);
        due.is("over the top past its shut door", x.about(0, 3), 1);
        x.shut(2, false);
        x.ticks(6);
        due.is("down at 2, as long as it is open", x.counted(2, 1), 0);
        x.shut(0, true);
        x.ticks(10);
        due.is("under the bottom past its shut door", x.about(0, 3), 2);
        x.shut(0, false);
        x.ticks(6);
        due.is("up at 0, as long as it is open", x.counted(0, 1), 0);
        x.shut(1, false);
        x.ticks(2);
        due.is("out where it wants to", x.about(0, 2), 35);
    }

    static void terms2_whoFearsNothingStaysIn() {
        CabinChain x = made(3, 4, 3, 1);
        child(x, 0, 0, 0, 1);
        x.ticks(1);
        x.shut(1, true);
        x.ticks(31);
        due.is("out nowhere", x.counted(0, 1) + x.counted(1, 1) + x.counted(2, 1), 0);
        due.is("over and under", x.about(0, 3), 2);
    }

    static void terms2_whoStepsOutForFearStandsBehindAll() {
        CabinChain x = made(3, 4, 3, 1);
        add(x, 0, 4, 0, 1, 1, 1, 1);
        add(x, 1, 0, 2, 0, 1, 6, 0);
        add(x, 2, 9, 2, 0, 1, 6, 0);
        x.ticks(5);
        due.is("in box 7", x.about(0, 1), 7);
        x.shut(1, true);
        x.ticks(6);
        due.is("two stand at the top", x.stands(2, 1), 2);
        due.is("no third", x.stands(2, 2), NONE);
        x.ticks(1);
        due.is("it stands there", x.about(0, 0), STANDS);
        due.is("behind both", x.stands(2, 2), 0);
        x.ticks(1);
        due.is("and goes down by box 1, which had gone ahead", x.about(0, 1), 1);
    }

    static void terms2_boxesGoByNumbers() {
        CabinChain x = new CabinChain();
        add(x, 0, 0, 0, 1, 1, 1, 1);
        x.ticks(1);
        x.shut(1, true);
        x.ticks(14);
        due.is("down at 1", x.about(0, 1), 0);
        x.ticks(1);
        due.is("out of box 0, into box 2 in one tick", x.about(0, 1), 2);
        due.is("counted out", x.counted(0, 1), 1);
        due.is("counted in twice", x.counted(0, 0), 2);
    }

    static void terms2_aBoxOfALowerNumberHasGoneAhead() {
        CabinChain x = new CabinChain();
        add(x, 0, 4, 0, 1, 1, 2, 1);
        x.ticks(5);
        due.is("in box 5", x.about(0, 1), 5);
        x.shut(1, true);
        x.ticks(15);
        due.is("out of box 5 behind box 1", x.stands(0, 0), 0);
        x.ticks(1);
        due.is("in box 1", x.about(0, 1), 1);
    }

    static void terms2_stepsOnlyIntoABoxThatGoesItsWay() {
        CabinChain x = made(3, 4, 3, 1);
        child(x, 0, 0, 1, 0);
        child(x, 1, 0, 1, 2);
        child(x, 2, 0, 0, 1);
        child(x, 3, 0, 2, 1);
        x.ticks(1);
        due.is("down from 1", x.about(0, 1), 5);
        due.is("up from 1", x.about(1, 1), 1);
        due.is("up from 0", x.about(2, 1), 0);
        due.is("down from 2", x.about(3, 1), 4);
    }

    static void terms2_oneStepsIntoABoxInATick() {
        CabinChain x = new CabinChain();
        child(x, 0, 0, 0, 1);
        child(x, 1, 0, 0, 1);
        child(x, 2, 0, 0, 1);
        x.ticks(1);
        due.is("the first", x.box(0, 4), 1);
        due.is("the second waits", x.stands(0, 0), 1);
        due.is("the third waits", x.stands(0, 1), 2);
        x.ticks(1);
        due.is("the second", x.box(0, 4), 3);
        x.ticks(1);
        due.is("closed", x.stands(0, 0), 2);
        x.ticks(1);
        due.is("both are out in one tick", x.count(6), 2);
        due.is("the third takes the next box", x.box(5, 4), 4);
    }

    static void terms2_whoCanNotStepInIsPassed() {
        CabinChain x = new CabinChain();
        add(x, 0, 0, 0, 1, 2, 3, 0);
        add(x, 1, 0, 0, 1, 2, 2, 0);
        child(x, 2, 0, 0, 1);
        x.ticks(1);
        due.is("who needs three is passed", x.box(0, 4), 2);
        due.is("and stays first", x.stands(0, 0), 0);
        x.ticks(1);
        due.is("and is passed again", x.box(0, 4), 6);
        due.is("and stands alone", x.stands(0, 1), NONE);
    }

    static void terms2_missesItsFloorForEver() {
        CabinChain x = made(2, 5, 3, 2);
        add(x, 0, 0, 0, 1, 1, 2, 0);
        x.ticks(4);
        due.is("waits for two ticks", x.about(0, 0), STANDS);
        x.ticks(1);
        due.is("in box 4", x.about(0, 1), 4);
        x.ticks(12);
        due.is("over", x.about(0, 3), 1);
        x.ticks(1);
        due.is("under", x.about(0, 3), 2);
        due.is("never out", x.counted(0, 1) + x.counted(1, 1), 0);
    }

    static void terms2_whileStoppedTicksLeftAreAsItStands() {
        CabinChain x = new CabinChain();
        add(x, 0, 2, 0, 1, 1, 2, 0);
        add(x, 1, 2, 0, 1, 1, 3, 0);
        x.ticks(1);
        x.stop(true);
        x.ticks(5);
        due.is("left as it stands", x.left(), 2);
        due.is("who needs two steps in", x.about(0, 1), 0);
        due.is("who needs three can't", x.about(1, 0), STANDS);
    }

    static void terms2_whileStoppedDoorsAndStepsGoOn() {
        CabinChain x = new CabinChain();
        child(x, 0, 0, 0, 1);
        x.ticks(1);
        x.shut(1, true);
        x.ticks(3);
        x.stop(true);
        x.ticks(2);
        due.is("at its shut door", x.about(0, 0), IN_BOX);
        x.shut(1, false);
        x.ticks(1);
        due.is("out of it", x.about(0, 2), 6);
    }

    static void terms2_theNextTickFollows() {
        CabinChain x = new CabinChain();
        for (int i = 1; i <= 5; i++) {
            due.is("ticks", x.ticks(1), i);
        }
        x.stop(true);
        due.is("stopped or not", x.ticks(1), 6);
    }

    static void terms2_costIs1000AtMostLessTheTickItComes() {
        doneIn(998, 998);
        doneIn(999, 999);
        doneIn(1000, 1000);
        doneIn(1001, 1000);
        doneIn(2000, 1000);
    }

    /** Held in a stopped box from tick 0 on, and let out by hand at its floor in that tick. */
    private static void doneIn(int tick, int cost) {
        CabinChain x = new CabinChain();
        child(x, 0, 0, 0, 1);
        x.ticks(1);
        x.stop(true);
        ticksTo(x, tick);
        due.is("cost till it is done", x.about(0, 4), 1000);
        due.is("let out", x.turn(3), 1);
        due.is("done in", x.about(0, 2), tick);
        due.is("cost", x.about(0, 4), cost);
    }
}
