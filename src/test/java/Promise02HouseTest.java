/** Promise 2: house. */
public final class Promise02HouseTest extends TestBase {
    public static void main(String[] args) throws ReflectiveOperationException {
        due.runTests(Promise02HouseTest.class, "promise2_");
    }

    static void promise2_floorsFrom2To8() {
        for (int f = 2; f <= 8; f++) {
            due.is("floors " + f, new CabinChain().house(f, 4, 3, 1), 2 * f + 2);
        }
        for (int f : new int[] {1, 9, 0, -1, LEAST, MOST}) {
            refused("floors " + f, (x, s) -> x.house(f, 4, 3, 1), BAD);
        }
    }

    static void promise2_stepsFrom2To12() {
        for (int steps = 2; steps <= 12; steps++) {
            CabinChain x = new CabinChain();
            due.is("steps " + steps, x.house(2, steps, 1, 1), 6);
            due.is("box 5", x.box(5, 0), 5 * steps);
        }
        for (int steps : new int[] {1, 13, 0, -1, LEAST, MOST}) {
            refused("steps " + steps, (x, s) -> x.house(2, steps, 1, 1), BAD);
        }
    }

    static void promise2_openFrom1ToSteps() {
        for (int steps = 2; steps <= 12; steps++) {
            CabinChain x = new CabinChain();
            due.is("open for 1 of " + steps, x.house(2, steps, 1, 1), 6);
            due.is("left", x.left(), 1);
            due.is("open for 0 of " + steps, x.house(2, steps, 0, 1), BAD);
            due.is("open for all " + steps, x.house(2, steps, steps, 1), 6);
            due.is("left", x.left(), steps);
            due.is("open for one more than " + steps, x.house(2, steps, steps + 1, 1), BAD);
        }
        for (int open : new int[] {0, 5, -1, LEAST, MOST}) {
            refused("open for " + open, (x, s) -> x.house(2, 4, open, 1), BAD);
        }
        refused("open for 13 of 12", (x, s) -> x.house(2, 12, 13, 1), BAD);
    }

    static void promise2_speedFrom1To4() {
        for (int v = 1; v <= 4; v++) {
            CabinChain x = new CabinChain();
            due.is("speed " + v, x.house(2, 4, 3, v), 6);
            x.ticks(1);
            due.is("moved", x.count(2), v);
        }
        for (int v : new int[] {0, 5, -1, LEAST, MOST}) {
            refused("speed " + v, (x, s) -> x.house(2, 12, 3, v), BAD);
        }
    }

    static void promise2_speedIsStepsAtMost() {
        due.is("speed 2 of 2 steps", new CabinChain().house(2, 2, 1, 2), 6);
        due.is("speed 3 of 3 steps", new CabinChain().house(2, 3, 1, 3), 6);
        refused("speed 3 of 2 steps", (x, s) -> x.house(2, 2, 1, 3), BAD);
        refused("speed 4 of 2 steps", (x, s) -> x.house(2, 2, 1, 4), BAD);
        refused("speed 4 of 3 steps", (x, s) -> x.house(2, 3, 1, 4), BAD);
    }

    /** What is allowed hangs on the new house, not on the one that stands. */
    static void promise2_goesByTheNewSteps() {
        CabinChain x = made(2, 2, 2, 2);
        due.is("more steps", x.house(2, 12, 12, 4), 6);
        due.is("fewer steps", x.house(2, 2, 3, 1), BAD);
        due.is("fewer steps, less open", x.house(2, 2, 2, 1), 6);
    }

    static void promise2_severalWrong() {
        refused("all are too small", (x, s) -> x.house(1, 1, 0, 0), BAD);
        refused("all are too large", (x, s) -> x.house(9, 13, 14, 5), BAD);
        refused("far off", (x, s) -> x.house(LEAST, MOST, LEAST, MOST), BAD);
    }

    static void promise2_allIsAtFirstInTheNewHouse() {
        for (State s : State.all()) {
            CabinChain x = s.make().get();
            due.is("house", x.house(3, 5, 4, 2), 8);
            due.same("after " + s.name(), Sight.of(x), Sight.of(made(3, 5, 4, 2)));
        }
    }

    static void promise2_theSameHouseIsAnotherOne() {
        CabinChain x = State.BUSY.make().get();
        due.is("house", x.house(4, 3, 2, 1), 10);
        due.same("after busy", Sight.of(x), Sight.of(made(4, 3, 2, 1)));
    }

    static void promise2_toldCountsGo() {
        CabinChain x = State.CROWD.make().get();
        x.house(8, 2, 1, 1);
        due.is("how many", x.count(8), 0);
        for (int i = 0; i < 16; i++) {
            due.is("told", x.tell(i / 2, i % 2, -1), -1);
        }
    }

    /** Those of floors that a smaller house has not got are gone, too, when a larger one comes. */
    static void promise2_toldCountsOfUpperFloorsGo() {
        CabinChain x = State.CROWD.make().get();
        x.house(2, 2, 1, 1);
        due.is("told in the small one", x.count(8), 0);
        x.house(8, 2, 1, 1);
        due.is("told in the large one", x.count(8), 0);
        due.is("wrong", x.wrong(), 0);
        due.is("told", x.tell(7, 1, -1), -1);
    }

    static void promise2_keptDaysGo() {
        CabinChain x = State.CROWD.make().get();
        x.house(8, 2, 1, 1);
        due.is("how many", x.count(7), 0);
        due.is("beside", x.beside(0, 0), BAD_BESIDE);
        due.is("keep", x.keep(), 1);
    }

    static void promise2_peopleGo() {
        CabinChain x = State.CROWD.make().get();
        x.house(8, 2, 1, 1);
        due.is("how many", x.count(0), 0);
        due.is("person 0", x.about(0, 0), BAD);
        for (int i = 0; i < 30; i++) {
            child(x, i, 0, 0, 1);
        }
        due.is("no more than 30 again", x.person(0, 0, 1, 1, 1, 0, 0), FULL);
    }

    static void promise2_ticksCountAnew() {
        CabinChain x = State.LATE.make().get();
        due.is("no more ticks", x.ticks(1), FULL);
        x.house(2, 12, 12, 4);
        due.is("how many", x.count(1), 0);
        due.is("ticks", x.ticks(200), 200);
        x.house(2, 12, 12, 4);
        due.is("one comes in tick 0", x.person(0, 0, 1, 1, 1, 0, 0), 0);
    }
}
