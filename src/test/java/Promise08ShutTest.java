/** Promise 8: shut. */
public final class Promise08ShutTest extends TestBase {
    public static void main(String[] args) throws ReflectiveOperationException {
        due.runTests(Promise08ShutTest.class, "promise8_");
    }

    static void promise8_floorsFrom0ToTheLast() {
        for (int f = 2; f <= 8; f++) {
            CabinChain x = made(f, 4, 3, 1);
            due.is("floor 0 of " + f, x.shut(0, true), 0);
            due.is("the last of " + f, x.shut(f - 1, true), 0);
            due.is("one behind it", x.shut(f, true), BAD);
        }
        refused("floor -1", (x, s) -> x.shut(-1, true), BAD);
        refused("floor behind the last", (x, s) -> x.shut(s.floors(), true), BAD);
        refused("to be opened", (x, s) -> x.shut(s.floors(), false), BAD);
        refused("least", (x, s) -> x.shut(LEAST, true), BAD);
        refused("most", (x, s) -> x.shut(MOST, false), BAD);
    }

    static void promise8_whatWas() {
        CabinChain x = new CabinChain();
        due.is("open as it was", x.shut(0, false), 0);
        due.is("shut", x.shut(0, true), 0);
        due.is("shut again", x.shut(0, true), 1);
        due.is("open", x.shut(0, false), 1);
        due.is("open again", x.shut(0, false), 0);
    }

    static void promise8_eachDoorByItself() {
        CabinChain x = made(8, 2, 1, 1);
        x.shut(0, true);
        x.shut(7, true);
        for (int floor = 0; floor < 8; floor++) {
            due.is("floor " + floor, x.shut(floor, true), floor == 0 || floor == 7 ? 1 : 0);
        }
    }

    static void promise8_nobodyStepsInTillItIsOpen() {
        CabinChain x = new CabinChain();
        child(x, 0, 0, 0, 1);
        x.shut(0, true);
        x.ticks(6);
        due.is("stands", x.about(0, 0), STANDS);
        due.is("ticks left all the same", x.left(), 1);
        x.shut(0, false);
        x.ticks(2);
        due.is("takes the next box", x.about(0, 1), 4);
    }

    static void promise8_bothShaftsAreShut() {
        CabinChain x = made(3, 4, 3, 1);
        child(x, 0, 0, 1, 0);
        child(x, 1, 0, 1, 2);
        x.shut(1, true);
        x.ticks(40);
        due.is("none steps in", x.count(4), 2);
    }
}
