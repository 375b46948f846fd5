/** Promise 26: count. */
public final class Promise26CountTest extends TestBase {
    public static void main(String[] args) throws ReflectiveOperationException {
        due.runTests(Promise26CountTest.class, "promise26_");
    }

    private static void are(CabinChain x, int... counts) {
        for (int what = 0; what < counts.length; what++) {
            due.is("count(" + what + ")", x.count(what), counts[what]);
        }
    }

    static void promise26_whatFrom0To8() {
        for (int what : new int[] {-1, 9, LEAST, MOST}) {
            refused("what " + what, (x, s) -> x.count(what), BAD);
        }
        for (int what = 0; what <= 8; what++) {
            int asked = what;
            asksOnly("what " + what, (x, s) -> x.count(asked));
        }
    }

    static void promise26_allAreNone() {
        are(new CabinChain(), 0, 0, 0, 0, 0, 0, 0, 0, 0);
    }

    static void promise26_oneOfEach() {
        are(State.BUSY.make().get(), 5, 8, 8, 1, 1, 1, 1, 2, 3);
    }

    static void promise26_mostTicksAndARoundOfMoved() {
        are(State.LATE.make().get(), 2, 2000, 8000 % 72, 0, 1, 0, 1, 1, 0);
    }

    static void promise26_thirtyYetToCome() {
        CabinChain x = new CabinChain();
        for (int i = 0; i < 30; i++) {
            child(x, i, 900, 0, 1);
        }
        are(x, 30, 0, 0, 0, 0, 0, 0, 0, 0);
    }

    static void promise26_thirtyStanding() {
        CabinChain x = new CabinChain();
        for (int i = 0; i < 30; i++) {
            add(x, i, 0, i % 2, 1 - i % 2, 1, 6, 0);
        }
        x.ticks(1);
        are(x, 30, 1, 1, 0, 30, 0, 0, 0, 0);
    }

    static void promise26_thirtyWalkingThenDone() {
        CabinChain x = new CabinChain();
        for (int i = 0; i < 30; i++) {
            due.is("person", x.person(0, i % 2, 1 - i % 2, 1, 1, 0, 1), i);
        }
        x.ticks(6);
        are(x, 30, 6, 6, 0, 0, 30, 0, 0, 0);
        x.ticks(1);
        are(x, 30, 7, 7, 0, 0, 0, 30, 0, 0);
    }

    /** Stopped with open doors, the box up of each floor but the top fills, and the box down of each but the lowest. */
    static void promise26_thirtyInBoxes() {
        CabinChain x = made(8, 2, 1, 1);
        for (int i = 0; i < 28; i++) {
            int floor = i % 7;
            boolean up = i % 2 == 0;
            child(x, i, 0, up ? floor : floor + 1, up ? 7 : 0);
        }
        child(x, 28, 0, 0, 7);
        child(x, 29, 0, 7, 0);
        x.stop(true);
        x.ticks(4);
        are(x, 30, 4, 0, 30, 0, 0, 0, 0, 0);
    }

    static void promise26_movedIsToldWithinTheChain() {
        CabinChain x = new CabinChain();
        x.ticks(23);
        due.is("the last", x.count(2), 23);
        x.ticks(1);
        due.is("round", x.count(2), 0);
        x.stop(true);
        x.turn(-1);
        due.is("round back", x.count(2), 23);
    }

    static void promise26_threeKept() {
        CabinChain x = new CabinChain();
        for (int i = 1; i <= 3; i++) {
            x.keep();
            due.is("kept", x.count(7), i);
        }
        x.keep();
        due.is("kept still", x.count(7), 3);
    }

    static void promise26_allToldOfEachHouse() {
        for (int f = 2; f <= 8; f++) {
            CabinChain x = made(f, 4, 3, 1);
            for (int i = 0; i < 2 * f; i++) {
                due.is("told", x.count(8), i);
                x.tell(i / 2, i % 2, i % 2 == 0 ? 0 : 100);
            }
            due.is("all told", x.count(8), 2 * f);
        }
    }
}
