/** Promise 3: person. */
public final class Promise03PersonTest extends TestBase {
    public static void main(String[] args) throws ReflectiveOperationException {
        due.runTests(Promise03PersonTest.class, "promise3_");
    }

    private static int person(CabinChain x, int[] p) {
        return x.person(p[0], p[1], p[2], p[3], p[4], p[5], p[6]);
    }

    /** One of the seven numbers is tried at both of its ends and beyond them, the others being right. */
    private static void numberFromTo(int which, int least, int most) {
        int[] right = {0, 4, 5, 1, 1, 0, 0};
        for (int n : new int[] {least, most}) {
            right[which] = n;
            due.is("number " + which + " is " + n, person(made(8, 2, 1, 1), right), 0);
        }
        for (int n : new int[] {least - 1, most + 1, LEAST, MOST}) {
            int[] wrong = {900, 0, 1, 1, 1, 0, 0};
            wrong[which] = n;
            refused("number " + which + " is " + n, (x, s) -> person(x, wrong), BAD);
        }
    }

    static void promise3_tickFrom0To900() {
        numberFromTo(0, 0, 900);
    }

    static void promise3_fromIsAFloor() {
        numberFromTo(1, 0, 7);
        due.is("floor 1 of 2", new CabinChain().person(0, 1, 0, 1, 1, 0, 0), 0);
        refused("the floor behind the last", (x, s) -> x.person(900, s.floors(), 0, 1, 1, 0, 0), BAD);
    }

    static void promise3_toIsAFloor() {
        numberFromTo(2, 0, 7);
        due.is("floor 1 of 2", new CabinChain().person(0, 0, 1, 1, 1, 0, 0), 0);
        refused("the floor behind the last", (x, s) -> x.person(900, 0, s.floors(), 1, 1, 0, 0), BAD);
    }

    static void promise3_fromAndToAreUnlike() {
        for (int floor = 0; floor < 8; floor++) {
            due.is("both " + floor, made(8, 2, 1, 1).person(0, floor, floor, 1, 1, 0, 0), BAD);
        }
        refused("both 0", (x, s) -> x.person(900, 0, 0, 1, 1, 0, 0), BAD);
        refused("both the last", (x, s) -> x.person(900, s.floors() - 1, s.floors() - 1, 1, 1, 0, 0), BAD);
    }

    static void promise3_widthFrom1To2() {
        numberFromTo(3, 1, 2);
    }

    static void promise3_needFrom1To6() {
        numberFromTo(4, 1, 6);
    }

    static void promise3_fearFrom0To1() {
        numberFromTo(5, 0, 1);
    }

    /** As many as the highest house has floors between its ends, whatever the house. */
    static void promise3_stairsFrom0To7() {
        numberFromTo(6, 0, 7);
        due.is("7 in a house of two floors", new CabinChain().person(0, 0, 1, 1, 1, 0, 7), 0);
    }

    static void promise3_severalWrong() {
        refused("all are too small", (x, s) -> x.person(-1, -1, -1, 0, 0, -1, -1), BAD);
        refused("all are too large", (x, s) -> x.person(901, 8, 8, 3, 7, 2, 8), BAD);
        refused("far off", (x, s) -> x.person(LEAST, MOST, LEAST, MOST, LEAST, MOST, LEAST), BAD);
    }

    static void promise3_theTickIsGoneBy() {
        CabinChain x = new CabinChain();
        due.is("tick 0 at first", x.person(0, 0, 1, 1, 1, 0, 0), 0);
        x.ticks(1);
        due.is("tick 0 after it", x.person(0, 0, 1, 1, 1, 0, 0), NO);
        due.is("tick 1 ahead of it", x.person(1, 0, 1, 1, 1, 0, 0), 1);
        ticksTo(x, 900);
        due.is("tick 899 after it", x.person(899, 0, 1, 1, 1, 0, 0), NO);
        due.is("tick 900 ahead of it", x.person(900, 0, 1, 1, 1, 0, 0), 2);
        x.ticks(1);
        due.is("tick 900 after it", x.person(900, 0, 1, 1, 1, 0, 0), NO);
        due.is("tick 901 is none", x.person(901, 0, 1, 1, 1, 0, 0), BAD);
    }

    static void promise3_theTickIsGoneByChangesNothing() {
        refusedIn(State.BUSY, "tick 7 in tick 8", (x, s) -> x.person(7, 0, 1, 1, 1, 0, 0), NO);
        refusedIn(State.BUSY, "tick 0 in tick 8", (x, s) -> x.person(0, 0, 1, 1, 1, 0, 0), NO);
        refusedIn(State.LATE, "tick 900 in tick 2000", (x, s) -> x.person(900, 0, 1, 1, 1, 0, 0), NO);
    }

    static void promise3_stoppedOrNotTheTickIsGoneBy() {
        CabinChain x = new CabinChain();
        x.stop(true);
        x.ticks(1);
        due.is("tick 0", x.person(0, 0, 1, 1, 1, 0, 0), NO);
        x.anew();
        due.is("tick 0 anew", x.person(0, 0, 1, 1, 1, 0, 0), 0);
    }

    static void promise3_whoComesInTheNextTickDoesCome() {
        CabinChain x = new CabinChain();
        x.ticks(4);
        child(x, 0, 4, 0, 1);
        x.ticks(1);
        due.is("in box 5", x.about(0, 1), 5);
    }

    static void promise3_numbersFrom0To29ThenFull() {
        CabinChain x = new CabinChain();
        for (int i = 0; i < 30; i++) {
            due.is("person " + i, x.person(900, 0, 1, 1, 1, 0, 0), i);
        }
        due.is("no person 30", x.person(900, 0, 1, 1, 1, 0, 0), FULL);
        due.is("thirty", x.count(0), 30);
        due.is("the last", x.about(29, 0), YET_TO_COME);
        due.is("none behind", x.about(30, 0), BAD);
    }

    static void promise3_fullChangesNothing() {
        refusedIn(State.CROWD, "person 30", (x, s) -> x.person(6, 0, 7, 2, 1, 1, 0), FULL);
        refusedIn(State.CROWD, "person 30 at last", (x, s) -> x.person(900, 7, 0, 1, 6, 0, 7), FULL);
    }

    static void promise3_fullStaysFullAnew() {
        CabinChain x = State.CROWD.make().get();
        x.anew();
        due.is("person 30", x.person(0, 0, 7, 1, 1, 0, 0), FULL);
    }

    static void promise3_badThenNoThenFull() {
        refusedIn(State.CROWD, "bad, gone by, full", (x, s) -> x.person(0, 0, 1, 1, 7, 0, 0), BAD);
        refusedIn(State.CROWD, "bad, full", (x, s) -> x.person(6, 0, 1, 1, 7, 0, 0), BAD);
        refusedIn(State.CROWD, "gone by, full", (x, s) -> x.person(5, 0, 1, 1, 1, 0, 0), NO);
        refusedIn(State.BUSY, "bad, gone by", (x, s) -> x.person(7, 0, 1, 1, 1, 0, 8), BAD);
    }

    static void promise3_eachNumberIsKeptAsTold() {
        CabinChain x = made(4, 4, 4, 1);
        due.is("a", x.person(3, 1, 3, 2, 1, 0, 0), 0);
        due.is("b", x.person(3, 3, 1, 1, 6, 1, 2), 1);
        x.ticks(3);
        due.is("a is yet to come", x.about(0, 0), YET_TO_COME);
        x.ticks(1);
        due.is("a is in a box at 1", x.counted(1, 0), 1);
        due.is("a is grown", x.box(x.about(0, 1), 3), 2);
        due.is("b walks", x.about(1, 0), WALKS);
        x.ticks(12);
        due.is("a is out at 3", x.counted(3, 1), 1);
        due.is("b is done", x.about(1, 2), 15);
    }
}
