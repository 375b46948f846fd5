/** Promise 12: stands. */
public final class Promise12StandsTest extends TestBase {
    public static void main(String[] args) throws ReflectiveOperationException {
        due.runTests(Promise12StandsTest.class, "promise12_");
    }

    static void promise12_floorsFrom0ToTheLast() {
        for (int f = 2; f <= 8; f++) {
            CabinChain x = made(f, 4, 3, 1);
            due.is("floor 0 of " + f, x.stands(0, 0), NONE);
            due.is("the last of " + f, x.stands(f - 1, 0), NONE);
            due.is("one behind it", x.stands(f, 0), BAD);
        }
        refused("floor -1", (x, s) -> x.stands(-1, 0), BAD);
        refused("floor behind the last", (x, s) -> x.stands(s.floors(), 0), BAD);
        refused("least", (x, s) -> x.stands(LEAST, 0), BAD);
        refused("most", (x, s) -> x.stands(MOST, 0), BAD);
    }

    static void promise12_iFrom0() {
        refused("i -1", (x, s) -> x.stands(0, -1), BAD);
        refused("i least", (x, s) -> x.stands(0, LEAST), BAD);
        refused("both wrong", (x, s) -> x.stands(s.floors(), -1), BAD);
    }

    static void promise12_emptyLine() {
        CabinChain x = new CabinChain();
        due.is("0", x.stands(0, 0), NONE);
        due.is("29", x.stands(0, 29), NONE);
        due.is("30", x.stands(0, 30), NONE);
        due.is("most", x.stands(0, MOST), NONE);
    }

    static void promise12_lineOfThirty() {
        CabinChain x = new CabinChain();
        for (int i = 0; i < 30; i++) {
            child(x, i, 0, 1, 0);
        }
        x.shut(1, true);
        x.ticks(1);
        for (int i = 0; i < 30; i++) {
            due.is("place " + i, x.stands(1, i), i);
        }
        due.is("none behind", x.stands(1, 30), NONE);
        due.is("none far behind", x.stands(1, MOST), NONE);
        due.is("none at the other floor", x.stands(0, 0), NONE);
    }

    static void promise12_allMoveUpWhenOneStepsIn() {
        CabinChain x = new CabinChain();
        for (int i = 0; i < 30; i++) {
            child(x, i, 0, 0, 1);
        }
        x.ticks(1);
        for (int i = 0; i < 29; i++) {
            due.is("place " + i, x.stands(0, i), i + 1);
        }
        due.is("one less", x.stands(0, 29), NONE);
    }

    static void promise12_whoIsPassedKeepsItsPlace() {
        CabinChain x = new CabinChain();
        add(x, 0, 0, 0, 1, 1, 6, 0);
        child(x, 1, 0, 0, 1);
        add(x, 2, 0, 0, 1, 1, 6, 0);
        x.ticks(1);
        due.is("first", x.stands(0, 0), 0);
        due.is("moved up", x.stands(0, 1), 2);
        due.is("none behind", x.stands(0, 2), NONE);
    }

    static void promise12_eachFloorHasItsLine() {
        CabinChain x = made(8, 2, 1, 1);
        shutAll(x, 8);
        for (int i = 0; i < 16; i++) {
            child(x, i, 0, i % 8, (i + 1) % 8);
        }
        x.ticks(1);
        for (int floor = 0; floor < 8; floor++) {
            due.is("first at " + floor, x.stands(floor, 0), floor);
            due.is("second at " + floor, x.stands(floor, 1), 8 + floor);
            due.is("third at " + floor, x.stands(floor, 2), NONE);
        }
    }

    static void promise12_asksOnly() {
        asksOnly("stands", (x, s) -> x.stands(s.floors() - 1, 0));
    }
}
