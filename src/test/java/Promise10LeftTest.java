/** Promise 10: left. */
public final class Promise10LeftTest extends TestBase {
    public static void main(String[] args) throws ReflectiveOperationException {
        due.runTests(Promise10LeftTest.class, "promise10_");
    }

    static void promise10_lastStepOpenFirstStepNot() {
        CabinChain x = made(2, 7, 5, 1);
        x.ticks(4);
        due.is("phase 4 is below 5", x.left(), 1);
        x.ticks(1);
        due.is("phase 5 is not", x.left(), 0);
        x.ticks(1);
        due.is("phase 6", x.left(), 0);
        x.ticks(1);
        due.is("phase 0", x.left(), 5);
    }

    static void promise10_roundedUp() {
        CabinChain x = made(2, 7, 5, 2);
        due.is("five by two", x.left(), 3);
        x.ticks(1);
        due.is("three by two", x.left(), 2);
        x.ticks(1);
        due.is("one by two", x.left(), 1);
        x.ticks(1);
        due.is("not open", x.left(), 0);
        x.speed(4);
        x.ticks(1);
        due.is("two by four", x.left(), 1);
    }

    static void promise10_openForOneStep() {
        CabinChain x = made(2, 2, 1, 1);
        due.is("phase 0", x.left(), 1);
        x.ticks(1);
        due.is("phase 1", x.left(), 0);
    }

    static void promise10_openForAllSteps() {
        CabinChain x = made(2, 3, 3, 1);
        for (int i = 0; i < 6; i++) {
            due.is("phase " + i % 3, x.left(), 3 - i % 3);
            x.ticks(1);
        }
    }

    static void promise10_mostAndLeast() {
        due.is("twelve by one", made(2, 12, 12, 1).left(), 12);
        due.is("one by four", made(2, 12, 1, 4).left(), 1);
        due.is("twelve by four", made(2, 12, 12, 4).left(), 3);
    }

    static void promise10_shutDoorsAreNothingToIt() {
        CabinChain x = new CabinChain();
        shutAll(x, 2);
        due.is("left", x.left(), 3);
    }

    static void promise10_phaseGoesBackWithTheChain() {
        CabinChain x = new CabinChain();
        x.stop(true);
        x.turn(-1);
        due.is("phase 3", x.left(), 0);
        x.turn(-1);
        due.is("phase 2", x.left(), 1);
    }

    static void promise10_asksOnly() {
        asksOnly("left", (x, s) -> x.left());
    }
}
