/** Promise 20: counted. */
public final class Promise20CountedTest extends TestBase {
    public static void main(String[] args) throws ReflectiveOperationException {
        due.runTests(Promise20CountedTest.class, "promise20_");
    }

    static void promise20_floorsFrom0ToTheLast() {
        for (int f = 2; f <= 8; f++) {
            CabinChain x = made(f, 4, 3, 1);
            due.is("floor 0 of " + f, x.counted(0, 0), 0);
            due.is("the last of " + f, x.counted(f - 1, 1), 0);
            due.is("one behind it", x.counted(f, 0), BAD);
        }
        refused("floor -1", (x, s) -> x.counted(-1, 0), BAD);
        refused("floor behind the last", (x, s) -> x.counted(s.floors(), 1), BAD);
        refused("least", (x, s) -> x.counted(LEAST, 0), BAD);
        refused("most", (x, s) -> x.counted(MOST, 1), BAD);
    }

    static void promise20_whatFrom0To1() {
        for (int what : new int[] {-1, 2, LEAST, MOST}) {
            refused("what " + what, (x, s) -> x.counted(0, what), BAD);
            refused("both wrong", (x, s) -> x.counted(-1, what), BAD);
        }
        asksOnly("counted", (x, s) -> x.counted(s.floors() - 1, 1));
    }

    static void promise20_inAndOutAtEachFloor() {
        CabinChain x = made(3, 4, 3, 1);
        child(x, 0, 0, 0, 2);
        child(x, 1, 0, 0, 1);
        child(x, 2, 0, 2, 1);
        x.ticks(20);
        int[] in = {2, 0, 1};
        int[] out = {0, 2, 1};
        for (int floor = 0; floor < 3; floor++) {
            due.is("in at " + floor, x.counted(floor, 0), in[floor]);
            due.is("out at " + floor, x.counted(floor, 1), out[floor]);
        }
    }

    static void promise20_atTheFirstAndTheLastFloorOfEight() {
        CabinChain x = made(8, 2, 1, 1);
        child(x, 0, 0, 0, 7);
        child(x, 1, 0, 7, 0);
        x.ticks(40);
        due.is("in at 0", x.counted(0, 0), 1);
        due.is("out at 0", x.counted(0, 1), 1);
        due.is("in at 7", x.counted(7, 0), 1);
        due.is("out at 7", x.counted(7, 1), 1);
    }

    /** They are of boxes: who walks steps in and out nowhere. */
    static void promise20_stairsDoNotCount() {
        CabinChain x = new CabinChain();
        due.is("walker", x.person(0, 0, 1, 1, 1, 0, 1), 0);
        x.ticks(20);
        due.is("done", x.about(0, 0), DONE);
        due.is("in", x.counted(0, 0), 0);
        due.is("out", x.counted(1, 1), 0);
    }

    static void promise20_widthIsNothingToIt() {
        CabinChain x = new CabinChain();
        add(x, 0, 0, 0, 1, 2, 1, 0);
        x.ticks(4);
        due.is("in", x.counted(0, 0), 1);
        due.is("out", x.counted(1, 1), 1);
    }

    static void promise20_outForFearAndInAgainCount() {
        CabinChain x = new CabinChain();
        add(x, 0, 0, 0, 1, 1, 1, 1);
        x.ticks(1);
        x.shut(1, true);
        x.ticks(15);
        due.is("in", x.counted(0, 0), 2);
        due.is("out", x.counted(0, 1), 1);
    }

    static void promise20_letOutByHandCounts() {
        CabinChain x = new CabinChain();
        child(x, 0, 0, 0, 1);
        x.ticks(1);
        x.stop(true);
        x.turn(3);
        due.is("out", x.counted(1, 1), 1);
    }

    static void promise20_theDayDoesNotCount() {
        CabinChain x = new CabinChain();
        child(x, 0, 0, 0, 1);
        x.day(0);
        x.cost(2, 0);
        x.keep();
        due.is("in", x.counted(0, 0), 0);
        due.is("out", x.counted(1, 1), 0);
    }
}
