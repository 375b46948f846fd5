/** Promise 23: wrong. */
public final class Promise23WrongTest extends TestBase {
    public static void main(String[] args) throws ReflectiveOperationException {
        due.runTests(Promise23WrongTest.class, "promise23_");
    }

    static void promise23_nothingToldNothingWrong() {
        CabinChain x = new CabinChain();
        child(x, 0, 0, 0, 1);
        due.is("at first", x.wrong(), 0);
        x.ticks(4);
        due.is("later", x.wrong(), 0);
    }

    static void promise23_eachFloorIsABit() {
        for (int floor = 0; floor < 8; floor++) {
            CabinChain x = made(8, 2, 1, 1);
            x.tell(floor, 0, 1);
            due.is("in at " + floor, x.wrong(), 1 << floor);
            x.tell(floor, 0, 0);
            due.is("right at " + floor, x.wrong(), 0);
            x.tell(floor, 1, 1);
            due.is("out at " + floor, x.wrong(), 1 << floor);
            x.tell(floor, 0, 1);
            due.is("both at " + floor, x.wrong(), 1 << floor);
        }
    }

    static void promise23_allFloors() {
        CabinChain x = made(8, 2, 1, 1);
        for (int floor = 0; floor < 8; floor++) {
            x.tell(floor, floor % 2, 100);
        }
        due.is("all eight", x.wrong(), 255);
    }

    static void promise23_againstTheCounts() {
        CabinChain x = made(3, 4, 3, 1);
        child(x, 0, 0, 0, 2);
        x.tell(0, 0, 1);
        x.tell(2, 1, 1);
        due.is("none has stepped yet", x.wrong(), 5);
        x.ticks(1);
        due.is("in at 0", x.wrong(), 4);
        x.ticks(8);
        due.is("out at 2", x.wrong(), 0);
        x.tell(0, 0, 2);
        due.is("one too many", x.wrong(), 1);
        x.tell(0, 0, 0);
        due.is("one too few", x.wrong(), 1);
        x.tell(0, 0, -1);
        due.is("a gap is never wrong", x.wrong(), 0);
        x.anew();
        due.is("anew none has stepped", x.wrong(), 4);
    }

    static void promise23_zeroIsTold() {
        CabinChain x = new CabinChain();
        child(x, 0, 0, 0, 1);
        x.tell(0, 0, 0);
        due.is("none yet", x.wrong(), 0);
        x.ticks(1);
        due.is("one by now", x.wrong(), 1);
    }

    static void promise23_asksOnly() {
        asksOnly("wrong", (x, s) -> x.wrong());
    }
}
