/** Promise 4: speed. */
public final class Promise04SpeedTest extends TestBase {
    public static void main(String[] args) throws ReflectiveOperationException {
        due.runTests(Promise04SpeedTest.class, "promise4_");
    }

    static void promise4_from1To4() {
        CabinChain x = made(2, 12, 12, 2);
        due.is("1", x.speed(1), 2);
        due.is("2", x.speed(2), 1);
        due.is("3", x.speed(3), 2);
        due.is("4", x.speed(4), 3);
        due.is("4 again", x.speed(4), 4);
        for (int v : new int[] {0, 5, -1, LEAST, MOST}) {
            refused("speed " + v, (y, s) -> y.speed(v), BAD);
        }
    }

    static void promise4_stepsAtMost() {
        due.is("2 of 2", made(2, 2, 1, 1).speed(2), 1);
        due.is("3 of 2", made(2, 2, 1, 1).speed(3), BAD);
        due.is("4 of 2", made(2, 2, 1, 1).speed(4), BAD);
        due.is("3 of 3", made(2, 3, 1, 1).speed(3), 1);
        due.is("4 of 3", made(2, 3, 1, 1).speed(4), BAD);
        due.is("4 of 4", made(2, 4, 1, 1).speed(4), 1);
        refusedIn(State.CROWD, "3 of 2", (x, s) -> x.speed(3), BAD);
        refusedIn(State.BUSY, "4 of 3", (x, s) -> x.speed(4), BAD);
    }

    static void promise4_theChainMovesByItFromTheNextTick() {
        CabinChain x = made(2, 5, 5, 1);
        int moved = 0;
        for (int v = 4; v >= 1; v--) {
            x.speed(v);
            due.is("not at once", x.count(2), moved);
            x.ticks(1);
            moved += v;
            due.is("by " + v, x.count(2), moved);
        }
    }

    static void promise4_ticksLeftGoByIt() {
        CabinChain x = made(2, 5, 5, 1);
        int[] left = {5, 3, 2, 2};
        for (int v = 1; v <= 4; v++) {
            x.speed(v);
            due.is("left by " + v, x.left(), left[v - 1]);
        }
    }

    static void promise4_mayBeToldWhileStopped() {
        CabinChain x = State.BUSY.make().get();
        due.is("speed", x.speed(3), 1);
        due.is("stopped still", x.stop(false), 1);
        x.ticks(1);
        due.is("moved from 8", x.count(2), 11);
    }
}
