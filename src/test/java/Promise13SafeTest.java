/** Promise 13: safe. */
public final class Promise13SafeTest extends TestBase {
    public static void main(String[] args) throws ReflectiveOperationException {
        due.runTests(Promise13SafeTest.class, "promise13_");
    }

    static void promise13_speedsFrom1To4() {
        CabinChain x = new CabinChain();
        due.is("1", x.safe(1), 1);
        due.is("4", x.safe(4), 1);
        for (int v : new int[] {0, 5, -1, LEAST, MOST}) {
            refused("speed " + v, (y, s) -> y.safe(v), BAD);
        }
    }

    static void promise13_speedsAreStepsAtMost() {
        due.is("2 of 2", made(2, 2, 1, 1).safe(2), 1);
        due.is("3 of 3", made(2, 3, 1, 1).safe(3), 1);
        refusedIn(State.CROWD, "3 of 2", (x, s) -> x.safe(3), BAD);
        refusedIn(State.CROWD, "4 of 2", (x, s) -> x.safe(4), BAD);
        refusedIn(State.BUSY, "4 of 3", (x, s) -> x.safe(4), BAD);
    }

    static void promise13_nobodyNeedsAnything() {
        for (int v = 1; v <= 4; v++) {
            due.is("speed " + v, made(2, 4, 1, 1).safe(v), 1);
        }
    }

    static void promise13_needIsNoMoreThanTheDoorsAreOpen() {
        for (int w = 1; w <= 12; w++) {
            for (int need = 1; need <= 6; need++) {
                CabinChain x = made(2, 12, w, 1);
                add(x, 0, 0, 0, 1, 1, need, 0);
                for (int v = 1; v <= 4; v++) {
                    // w by v rounded up is need at least where need - 1 ticks are not enough.
                    due.is("open " + w + ", need " + need + ", speed " + v, x.safe(v), (need - 1) * v < w ? 1 : 0);
                }
            }
        }
    }

    static void promise13_whoWalksNeedsNothing() {
        CabinChain x = made(8, 4, 1, 1);
        due.is("walks seven floors", x.person(0, 0, 7, 1, 6, 0, 7), 0);
        due.is("walks down one", x.person(0, 7, 6, 1, 6, 0, 1), 1);
        due.is("safe", x.safe(4), 1);
        due.is("one floor too many", x.person(0, 7, 0, 1, 2, 0, 6), 2);
        due.is("not safe", x.safe(1), 0);
    }

    static void promise13_oneOfThirtyIsEnough() {
        for (int slow : new int[] {0, 14, 29}) {
            CabinChain x = new CabinChain();
            for (int i = 0; i < 30; i++) {
                add(x, i, 0, 0, 1, 1, i == slow ? 4 : 3, 0);
            }
            due.is("person " + slow, x.safe(1), 0);
        }
        CabinChain y = new CabinChain();
        for (int i = 0; i < 30; i++) {
            add(y, i, 0, 0, 1, 1, 3, 0);
        }
        due.is("none", y.safe(1), 1);
        due.is("none, but faster", y.safe(2), 0);
    }

    static void promise13_whereTheyAreIsNothingToIt() {
        CabinChain x = new CabinChain();
        add(x, 0, 0, 0, 1, 1, 3, 0);
        ticksTo(x, 30);
        due.is("done", x.about(0, 0), DONE);
        due.is("safe", x.safe(1), 1);
        due.is("not safe", x.safe(2), 0);
    }

    /** The doors' whole time counts, not what is left of it now. */
    static void promise13_phaseIsNothingToIt() {
        CabinChain x = new CabinChain();
        add(x, 0, 900, 0, 1, 1, 3, 0);
        x.ticks(3);
        due.is("not open now", x.left(), 0);
        due.is("safe", x.safe(1), 1);
    }
}
