/** Promise 15: bestSpeed. */
public final class Promise15BestSpeedTest extends TestBase {
    public static void main(String[] args) throws ReflectiveOperationException {
        due.runTests(Promise15BestSpeedTest.class, "promise15_");
    }

    static void promise15_nobody() {
        due.is("of all the least", new CabinChain().bestSpeed(), 1);
        due.is("whatever it is now", made(2, 12, 1, 4).bestSpeed(), 1);
    }

    static void promise15_noneIsSafe() {
        CabinChain x = made(3, 5, 5, 1);
        add(x, 0, 0, 0, 2, 1, 6, 0);
        due.is("six of five", x.bestSpeed(), NONE);
        CabinChain y = made(3, 6, 6, 1);
        add(y, 0, 0, 0, 2, 1, 6, 0);
        due.is("six of six", y.bestSpeed(), 1);
    }

    static void promise15_onlySafeOnes() {
        CabinChain x = made(8, 4, 4, 1);
        child(x, 0, 0, 0, 7);
        due.is("a child is safe by 4", x.bestSpeed(), 4);
        due.is("walks by any", x.person(0, 0, 2, 1, 6, 0, 2), 1);
        due.is("a walker's need is nothing", x.bestSpeed(), 4);
        add(x, 2, 900, 0, 7, 1, 2, 0);
        due.is("two ticks are not safe by 4", x.bestSpeed(), 3);
        add(x, 3, 900, 0, 7, 1, 3, 0);
        due.is("three only by 1", x.bestSpeed(), 1);
        add(x, 4, 900, 0, 7, 1, 5, 0);
        due.is("five not at all", x.bestSpeed(), NONE);
    }

    static void promise15_ofSeveralTheLeast() {
        CabinChain x = new CabinChain();
        child(x, 0, 0, 0, 1);
        due.is("by 2 as by 4", x.cost(2, -1), x.cost(4, -1));
        due.isTrue("3 is between them", x.cost(3, -1) > x.cost(2, -1));
        due.is("2", x.bestSpeed(), 2);
        CabinChain y = new CabinChain();
        due.is("walker", y.person(0, 0, 1, 1, 6, 0, 1), 0);
        due.is("all alike", y.bestSpeed(), 1);
    }

    static void promise15_stepsAtMost() {
        for (int s = 2; s <= 6; s++) {
            CabinChain x = made(8, s, s, 1);
            child(x, 0, 0, 0, 7);
            due.is("of " + s + " steps", x.bestSpeed(), Math.min(4, s));
        }
    }

    /** Doors open for one step of five: by an even speed the box never stands at that step of floor 1. */
    static void promise15_aFasterOneMayMissTheFloor() {
        CabinChain x = made(2, 5, 1, 4);
        child(x, 0, 4, 0, 1);
        int[] costs = {5, 996, 5, 996};
        for (int v = 1; v <= 4; v++) {
            due.is("safe by " + v, x.safe(v), 1);
            due.is("by " + v, x.cost(v, -1), costs[v - 1]);
        }
        due.is("the least of the best", x.bestSpeed(), 1);
    }

    static void promise15_asksOnly() {
        asksOnly("bestSpeed", (x, s) -> x.bestSpeed());
    }
}
