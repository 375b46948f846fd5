/** Promise 1: a new object. */
public final class Promise01NewObjectTest extends TestBase {
    public static void main(String[] args) throws ReflectiveOperationException {
        due.runTests(Promise01NewObjectTest.class, "promise1_");
    }

    static void promise1_hasTwoFloors() {
        CabinChain x = new CabinChain();
        due.is("floor 1", x.shut(1, false), 0);
        due.is("no floor 2", x.shut(2, false), BAD);
        due.is("box 5 is under the bottom", x.box(5, 1), 101);
        due.is("no box 6", x.box(6, 1), BAD);
    }

    static void promise1_hasFourSteps() {
        CabinChain x = new CabinChain();
        due.is("box 1", x.box(1, 0), 4);
        x.ticks(23);
        due.is("a step ahead of a round", x.count(2), 23);
        x.ticks(1);
        due.is("a round", x.count(2), 0);
        due.is("speed 4 is no more than the steps", x.speed(4), 1);
    }

    static void promise1_hasDoorsOpenForThree() {
        CabinChain x = new CabinChain();
        int[] left = {3, 2, 1, 0, 3};
        for (int i = 0; i < left.length; i++) {
            due.is("left in phase " + i % 4, x.left(), left[i]);
            x.ticks(1);
        }
    }

    static void promise1_hasSpeed1() {
        due.is("speed", new CabinChain().speed(2), 1);
    }

    static void promise1_hasNoPeople() {
        CabinChain x = new CabinChain();
        for (int what = 0; what <= 8; what++) {
            due.is("count " + what, x.count(what), 0);
        }
        due.is("person 0", x.about(0, 0), BAD);
        due.is("line at 0", x.stands(0, 0), NONE);
        due.is("line at 1", x.stands(1, 0), NONE);
        due.is("the first person", x.person(0, 0, 1, 1, 1, 0, 0), 0);
    }

    static void promise1_isAtFirst() {
        CabinChain x = new CabinChain();
        due.is("goes", x.stop(false), 0);
        due.is("doors", x.shut(0, false) + x.shut(1, false), 0);
        due.is("told", x.tell(0, 0, -1) + x.tell(0, 1, -1) + x.tell(1, 0, -1) + x.tell(1, 1, -1), -4);
        due.is("kept", x.beside(0, 0), BAD_BESIDE);
    }

    static void promise1_isAsThatHouseWouldBe() {
        due.same("as house(2, 4, 3, 1)", Sight.of(new CabinChain()), Sight.of(made(2, 4, 3, 1)));
    }

    static void promise1_sharesNothingWithAnotherObject() {
        CabinChain x = new CabinChain();
        State.CROWD.make().get();
        State.BUSY.make().get();
        due.same("beside others", Sight.of(x), Sight.of(new CabinChain()));
    }
}
