/** Promise 25: beside. */
public final class Promise25BesideTest extends TestBase {
    public static void main(String[] args) throws ReflectiveOperationException {
        due.runTests(Promise25BesideTest.class, "promise25_");
    }

    static void promise25_daysFrom0ToTheLastKept() {
        CabinChain x = new CabinChain();
        for (int kept = 0; kept < 3; kept++) {
            due.is("day " + kept + " is not kept yet", x.beside(kept, 0), BAD_BESIDE);
            x.keep();
            due.is("day " + kept, x.beside(kept, 0), 0);
        }
        due.is("no day 3", x.beside(3, 0), BAD_BESIDE);
        refused("day -1", (y, s) -> y.beside(-1, 0), BAD_BESIDE);
        refused("day behind the last", (y, s) -> y.beside(s.kept(), 0), BAD_BESIDE);
        refused("least", (y, s) -> y.beside(LEAST, 0), BAD_BESIDE);
        refused("most", (y, s) -> y.beside(MOST, 0), BAD_BESIDE);
    }

    static void promise25_whatFrom0To2() {
        for (int what : new int[] {-1, 3, LEAST, MOST}) {
            refused("what " + what, (x, s) -> x.beside(0, what), BAD_BESIDE);
            refused("both wrong", (x, s) -> x.beside(-1, what), BAD_BESIDE);
        }
        for (int what = 0; what <= 2; what++) {
            int asked = what;
            asksOnly("what " + what, (x, s) -> x.beside(0, asked));
        }
    }

    private static void is(CabinChain x, int i, int less, int more, int together) {
        due.is("less", x.beside(i, 0), less);
        due.is("more", x.beside(i, 1), more);
        due.is("together", x.beside(i, 2), together);
    }

    static void promise25_alike() {
        CabinChain x = new CabinChain();
        child(x, 0, 0, 0, 1);
        x.keep();
        is(x, 0, 0, 0, 0);
    }

    /** By 1 a child costs 3, by 2 it costs 1, by 3 it costs 2. */
    static void promise25_oneTickLessOneTickMore() {
        CabinChain x = new CabinChain();
        child(x, 0, 0, 0, 1);
        x.speed(3);
        x.keep();
        x.speed(2);
        is(x, 0, 1, 0, 1);
        x.speed(1);
        is(x, 0, 0, 1, -1);
    }

    static void promise25_someLessSomeMore() {
        CabinChain x = made(3, 4, 3, 1);
        child(x, 0, 0, 0, 2);
        add(x, 1, 0, 2, 0, 1, 2, 0);
        x.keep();
        int then = x.cost(1, -1);
        x.speed(4);
        is(x, 0, 1, 1, then - x.cost(4, -1));
    }

    static void promise25_eachKeptDayByItself() {
        CabinChain x = new CabinChain();
        child(x, 0, 0, 0, 1);
        for (int v = 1; v <= 3; v++) {
            x.speed(v);
            x.keep();
        }
        is(x, 0, 1, 0, 1);
        is(x, 1, 0, 1, -1);
        is(x, 2, 0, 0, 0);
    }

    static void promise25_onlyPeopleThereWereThen() {
        CabinChain x = new CabinChain();
        x.keep();
        child(x, 0, 0, 0, 1);
        x.keep();
        add(x, 1, 0, 1, 0, 1, 6, 0);
        x.keep();
        x.speed(2);
        is(x, 0, 0, 0, 0);
        is(x, 1, 1, 0, 2);
        is(x, 2, 1, 0, 2);
    }

    /** Who comes to be told later may stand in the way of those there were. */
    static void promise25_againstTheDayOfAllThereAreNow() {
        CabinChain x = made(2, 4, 3, 1);
        child(x, 0, 1, 0, 1);
        x.keep();
        child(x, 1, 0, 0, 1);
        child(x, 2, 0, 0, 1);
        is(x, 0, 0, 1, -4);
    }

    /** By 1 thirty are done in time, by 4 none of them ever steps in, as they need two ticks. */
    static void promise25_thirty() {
        CabinChain x = made(2, 4, 3, 1);
        for (int i = 0; i < 30; i++) {
            add(x, i, 30 * i, 0, 1, 2, 2, 0);
        }
        x.keep();
        int then = x.cost(1, -1);
        x.speed(4);
        int never = 30 * 1000 - 30 * (29 * 30 / 2);
        due.is("none is done", x.cost(4, -1), never);
        is(x, 0, 0, 30, then - never);
        x.keep();
        x.speed(1);
        is(x, 1, 30, 0, never - then);
    }
}
