/** Promise 11: about. */
public final class Promise11AboutTest extends TestBase {
    public static void main(String[] args) throws ReflectiveOperationException {
        due.runTests(Promise11AboutTest.class, "promise11_");
    }

    static void promise11_peopleFrom0ToTheLast() {
        due.is("none of none", new CabinChain().about(0, 0), BAD);
        CabinChain x = State.CROWD.make().get();
        due.isTrue("0 of thirty", x.about(0, 0) >= 0);
        due.isTrue("29 of thirty", x.about(29, 0) >= 0);
        for (int what = 0; what <= 4; what++) {
            int asked = what;
            refused("-1", (y, s) -> y.about(-1, asked), BAD);
            refused("behind the last", (y, s) -> y.about(s.people(), asked), BAD);
        }
        refused("least", (y, s) -> y.about(LEAST, 0), BAD);
        refused("most", (y, s) -> y.about(MOST, 0), BAD);
    }

    static void promise11_whatFrom0To4() {
        for (int what : new int[] {-1, 5, LEAST, MOST}) {
            refused("what " + what, (x, s) -> x.about(0, what), BAD);
            refused("both wrong", (x, s) -> x.about(-1, what), BAD);
        }
        asksOnly("about", (x, s) -> x.about(0, 4));
    }

    private static void is(CabinChain x, int p, int... answers) {
        for (int what = 0; what < answers.length; what++) {
            due.is("about(" + p + ", " + what + ")", x.about(p, what), answers[what]);
        }
    }

    static void promise11_yetToCome() {
        CabinChain x = State.BUSY.make().get();
        is(x, 4, YET_TO_COME, NONE, NONE, 0, 950);
    }

    static void promise11_stands() {
        CabinChain x = State.BUSY.make().get();
        is(x, 3, STANDS, 2, NONE, 0, 998);
    }

    static void promise11_inABox() {
        CabinChain x = State.BUSY.make().get();
        is(x, 0, IN_BOX, 0, NONE, 0, 1000);
    }

    static void promise11_walks() {
        CabinChain x = State.BUSY.make().get();
        is(x, 2, WALKS, NONE, NONE, 0, 999);
    }

    static void promise11_done() {
        CabinChain x = State.BUSY.make().get();
        is(x, 1, DONE, 1, 5, 0, 5);
    }

    static void promise11_walkedAndDone() {
        CabinChain x = State.BUSY.make().get();
        x.ticks(12);
        is(x, 2, DONE, 3, 19, 0, 18);
    }

    static void promise11_doneInTheTickBehindThatInWhichItComes() {
        CabinChain x = made(2, 2, 2, 2);
        child(x, 0, 1, 0, 1);
        x.ticks(3);
        is(x, 0, DONE, 1, 2, 0, 1);
    }

    static void promise11_costIsOf1000() {
        CabinChain x = new CabinChain();
        child(x, 0, 0, 0, 1);
        child(x, 1, 900, 0, 1);
        due.is("who comes at 0", x.about(0, 4), 1000);
        due.is("who comes at 900", x.about(1, 4), 100);
        shutAll(x, 2);
        ticksTo(x, 2000);
        due.is("who came at 0 and stands", x.about(0, 4), 1000);
        due.is("who came at 900 and stands", x.about(1, 4), 100);
    }

    static void promise11_boxOfTheHighestNumber() {
        CabinChain x = made(8, 2, 1, 1);
        child(x, 0, 1, 0, 7);
        x.ticks(2);
        is(x, 0, IN_BOX, 17, NONE, 0, 999);
    }

    static void promise11_turnedStaysTold() {
        CabinChain x = new CabinChain();
        child(x, 0, 0, 0, 1);
        x.ticks(1);
        x.shut(1, true);
        x.ticks(19);
        x.shut(1, false);
        x.ticks(8);
        is(x, 0, DONE, 1, 27, 2, 27);
    }
}
