/** Promise 14: cost. */
public final class Promise14CostTest extends TestBase {
    public static void main(String[] args) throws ReflectiveOperationException {
        due.runTests(Promise14CostTest.class, "promise14_");
    }

    static void promise14_speedsFrom1To4() {
        CabinChain x = new CabinChain();
        child(x, 0, 0, 0, 1);
        int[] costs = {3, 1, 2, 1};
        for (int v = 1; v <= 4; v++) {
            due.is("by " + v, x.cost(v, -1), costs[v - 1]);
        }
        for (int v : new int[] {0, 5, -1, LEAST, MOST}) {
            refused("speed " + v, (y, s) -> y.cost(v, -1), BAD);
        }
    }

    static void promise14_speedsAreStepsAtMost() {
        due.is("2 of 2", made(2, 2, 1, 1).cost(2, 0), 0);
        due.is("3 of 3", made(2, 3, 1, 1).cost(3, 0), 0);
        refusedIn(State.CROWD, "3 of 2", (x, s) -> x.cost(3, 0), BAD);
        refusedIn(State.BUSY, "4 of 3", (x, s) -> x.cost(4, 0), BAD);
    }

    static void promise14_stairsFromMinus1To7() {
        CabinChain x = made(3, 4, 3, 1);
        child(x, 0, 0, 0, 1);
        due.is("walks as told", x.person(10, 2, 0, 1, 1, 0, 2), 1);
        due.is("as told", x.cost(1, -1), 3 + 12);
        due.is("none walks", x.cost(1, 0), 3 + 9);
        due.is("one floor", x.cost(1, 1), 6 + 9);
        due.is("two floors", x.cost(1, 2), 6 + 12);
        due.is("seven floors", x.cost(1, 7), 6 + 12);
        for (int k : new int[] {-2, 8, LEAST, MOST}) {
            refused("stairs " + k, (y, s) -> y.cost(1, k), BAD);
            refused("both wrong", (y, s) -> y.cost(0, k), BAD);
        }
    }

    static void promise14_stairs7InAHouseOfTwoFloors() {
        CabinChain x = new CabinChain();
        child(x, 0, 0, 0, 1);
        due.is("walks", x.cost(1, 7), 6);
    }

    static void promise14_nobody() {
        for (int v = 1; v <= 4; v++) {
            for (int k = -1; k <= 7; k++) {
                due.is("by " + v + ", stairs " + k, new CabinChain().cost(v, k), 0);
            }
        }
    }

    /** The most that a day can cost, and the most that those who come last can. */
    static void promise14_thirtyThatAreNeverDone() {
        CabinChain x = new CabinChain();
        CabinChain y = new CabinChain();
        for (int i = 0; i < 30; i++) {
            add(x, i, 0, 0, 1, 2, 6, 1);
            add(y, i, 900, 0, 1, 2, 6, 1);
        }
        due.is("from tick 0 on", x.cost(1, -1), 30000);
        due.is("from tick 900 on", y.cost(1, -1), 3000);
    }

    static void promise14_thirtyWalkSevenFloors() {
        CabinChain x = made(8, 2, 1, 1);
        for (int i = 0; i < 30; i++) {
            child(x, i, 900, i % 2 * 7, 7 - i % 2 * 7);
        }
        due.is("on foot", x.cost(1, 7), 30 * 42);
        due.isTrue("one floor less and none walks", x.cost(1, 6) != 30 * 42);
        due.is("none walks", x.cost(1, 6), x.cost(1, 0));
    }

    static void promise14_notBySpeedAsItIs() {
        CabinChain x = made(4, 4, 4, 4);
        child(x, 0, 0, 0, 3);
        due.is("by 1", x.cost(1, -1), 11);
        due.is("by 4", x.cost(4, -1), 3);
    }
}
