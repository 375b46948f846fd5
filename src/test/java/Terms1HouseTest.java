/** The terms: THE HOUSE, THE CHAIN, and how much a BOX holds. */
public final class Terms1HouseTest extends TestBase {
    private static final int[] FLOORS_OF_2 = {0, 1, 100, 1, 0, 101};
    private static final int[] WAYS_OF_2 = {1, 1, NONE, 0, 0, NONE};
    private static final int[] FLOORS_OF_8 = {0, 1, 2, 3, 4, 5, 6, 7, 100, 7, 6, 5, 4, 3, 2, 1, 0, 101};
    private static final int[] WAYS_OF_8 = {1, 1, 1, 1, 1, 1, 1, 1, NONE, 0, 0, 0, 0, 0, 0, 0, 0, NONE};

    public static void main(String[] args) throws ReflectiveOperationException {
        due.runTests(Terms1HouseTest.class, "terms1_");
    }

    static void terms1_boxesAreTwiceTheFloorsAndTwo() {
        for (int f = 2; f <= 8; f++) {
            CabinChain x = new CabinChain();
            due.is("boxes", x.house(f, 2, 1, 1), 2 * f + 2);
            due.is("the last box", x.box(2 * f + 1, 0), 2 * (2 * f + 1));
            due.is("no box behind it", x.box(2 * f + 2, 0), BAD);
        }
    }

    static void terms1_oneBoxEachSSteps() {
        for (int s = 2; s <= 12; s++) {
            CabinChain x = made(3, s, 1, 1);
            for (int b = 0; b < 8; b++) {
                due.is("place of box " + b, x.box(b, 0), b * s);
            }
        }
    }

    static void terms1_movedComesRoundForth() {
        CabinChain x = made(2, 2, 1, 1);
        for (int i = 1; i <= 25; i++) {
            x.ticks(1);
            due.is("moved after " + i, x.count(2), i % 12);
            due.is("box 0 after " + i, x.box(0, 0), i % 12);
            due.is("box 5 after " + i, x.box(5, 0), (10 + i) % 12);
        }
    }

    static void terms1_movedComesRoundWithinATick() {
        CabinChain x = made(8, 12, 12, 4);
        x.ticks(53);
        due.is("the last tick of a round", x.count(2), 212);
        x.ticks(1);
        due.is("a round", x.count(2), 0);
        x.stop(true);
        x.turn(-2);
        x.stop(false);
        due.is("two steps ahead of it", x.count(2), 214);
        x.ticks(1);
        due.is("two steps behind it", x.count(2), 2);
        due.is("box 0", x.box(0, 0), 2);
        due.is("box 17", x.box(17, 0), 206);
    }

    static void terms1_movedComesRoundBack() {
        CabinChain x = new CabinChain();
        x.stop(true);
        x.turn(-1);
        due.is("moved", x.count(2), 23);
        due.is("box 0", x.box(0, 0), 23);
        due.is("box 1", x.box(1, 0), 3);
        due.is("box 5", x.box(5, 0), 19);
        x.turn(-23);
        due.is("a whole round back", x.count(2), 0);
        x.turn(-24);
        due.is("one more", x.count(2), 0);
    }

    static void terms1_moreThanARoundInOneTurn() {
        CabinChain x = made(2, 2, 1, 1);
        x.stop(true);
        x.turn(100);
        due.is("a hundred forth on twelve", x.count(2), 4);
        x.turn(-100);
        due.is("and back", x.count(2), 0);
        x.turn(-100);
        due.is("a hundred back on twelve", x.count(2), 8);
    }

    static void terms1_partsOfTheChainWithTwoFloors() {
        parts(2, 2, FLOORS_OF_2, WAYS_OF_2);
        parts(2, 12, FLOORS_OF_2, WAYS_OF_2);
    }

    static void terms1_partsOfTheChainWithEightFloors() {
        parts(8, 2, FLOORS_OF_8, WAYS_OF_8);
        parts(8, 12, FLOORS_OF_8, WAYS_OF_8);
    }

    /** Each part at its first step and at its last, the next one a step forth, the one ahead a step back. */
    private static void parts(int f, int s, int[] floors, int[] ways) {
        CabinChain x = made(f, s, 1, 1);
        x.stop(true);
        boxesAreIn(x, 0, floors, ways);
        x.turn(s - 1);
        boxesAreIn(x, 0, floors, ways);
        x.turn(1);
        boxesAreIn(x, 1, floors, ways);
        x.turn(-s - 1);
        boxesAreIn(x, floors.length - 1, floors, ways);
    }

    private static void boxesAreIn(CabinChain x, int by, int[] floors, int[] ways) {
        for (int b = 0; b < floors.length; b++) {
            int part = (b + by) % floors.length;
            due.is("floor of box " + b, x.box(b, 1), floors[part]);
            due.is("way of box " + b, x.box(b, 2), ways[part]);
        }
    }

    static void terms1_boxesAreOpenWhilePhaseIsBelowW() {
        for (int s = 2; s <= 12; s++) {
            for (int w = 1; w <= s; w++) {
                CabinChain x = made(2, s, w, 1);
                for (int phase = 0; phase < s; phase++) {
                    due.isTrue(s + " steps, open for " + w + ", phase " + phase, x.left() > 0 == phase < w);
                    x.ticks(1);
                }
                due.is("and again", x.left(), w);
            }
        }
    }

    static void terms1_ticksLeftAreRoundedUp() {
        for (int w = 1; w <= 12; w++) {
            for (int v = 1; v <= 4; v++) {
                CabinChain x = made(2, 12, w, v);
                x.stop(true);
                for (int phase = 0; phase < 12; phase++) {
                    due.is("open for " + w + ", speed " + v + ", phase " + phase, x.left(), ticksOf(w - phase, v));
                    x.turn(1);
                }
            }
        }
    }

    private static int ticksOf(int steps, int v) {
        int ticks = 0;
        for (int left = steps; left > 0; left -= v) {
            ticks++;
        }
        return ticks;
    }

    static void terms1_fourChildrenFillABox() {
        CabinChain x = made(2, 12, 12, 1);
        for (int i = 0; i < 5; i++) {
            child(x, i, 0, 0, 1);
        }
        x.ticks(3);
        due.is("three children", x.box(0, 3), 3);
        x.ticks(1);
        due.is("four children", x.box(0, 3), 4);
        x.ticks(5);
        due.is("no fifth", x.box(0, 4), 15);
        due.is("it stands", x.stands(0, 0), 4);
    }

    static void terms1_twoGrownFillABox() {
        CabinChain x = made(2, 12, 12, 1);
        add(x, 0, 0, 0, 1, 2, 1, 0);
        add(x, 1, 0, 0, 1, 2, 1, 0);
        add(x, 2, 0, 0, 1, 2, 1, 0);
        child(x, 3, 0, 0, 1);
        x.ticks(8);
        due.is("two grown", x.box(0, 4), 3);
        due.is("widths", x.box(0, 3), 4);
        due.is("no third, no child", x.count(4), 2);
    }

    static void terms1_threeLeaveRoomForAChildButForNoGrown() {
        CabinChain x = made(2, 4, 4, 1);
        child(x, 0, 0, 0, 1);
        add(x, 1, 0, 0, 1, 2, 1, 0);
        add(x, 2, 0, 0, 1, 2, 1, 0);
        child(x, 3, 0, 0, 1);
        x.ticks(3);
        due.is("the child passes the grown one", x.box(0, 4), 11);
        due.is("four is all", x.box(0, 3), 4);
        due.is("the grown one waits", x.stands(0, 0), 2);
        due.is("alone", x.stands(0, 1), NONE);
    }

    static void terms1_whoStepsOutMakesRoomInTheSameTick() {
        CabinChain x = made(3, 4, 3, 1);
        add(x, 0, 0, 0, 1, 2, 1, 0);
        add(x, 1, 0, 0, 1, 2, 1, 0);
        add(x, 2, 3, 1, 2, 2, 1, 0);
        x.ticks(3);
        due.is("a full box", x.box(0, 3), 4);
        x.ticks(1);
        due.is("both are out", x.count(6), 2);
        due.is("one is in", x.box(0, 4), 4);
    }

    static void terms1_whoRidesOnMakesNoRoom() {
        CabinChain x = made(3, 4, 3, 1);
        add(x, 0, 0, 0, 2, 2, 1, 0);
        add(x, 1, 0, 0, 2, 2, 1, 0);
        child(x, 2, 3, 1, 2);
        x.ticks(6);
        due.is("full as it was", x.box(0, 4), 3);
        due.is("the child stands", x.stands(1, 0), 2);
        x.ticks(2);
        due.is("the next box takes it", x.about(2, 1), 7);
    }
}
