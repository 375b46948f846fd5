/** Promise 16: bestStairs. */
public final class Promise16BestStairsTest extends TestBase {
    public static void main(String[] args) throws ReflectiveOperationException {
        due.runTests(Promise16BestStairsTest.class, "promise16_");
    }

    static void promise16_nobody() {
        due.is("of all the least", new CabinChain().bestStairs(), 0);
        due.is("of eight floors", made(8, 2, 1, 1).bestStairs(), 0);
    }

    /** The chain takes nobody: the doors are never open long enough. */
    static void promise16_allTheWayIsTheLast() {
        for (int f = 2; f <= 8; f++) {
            CabinChain x = made(f, 2, 1, 1);
            add(x, 0, 0, 0, f - 1, 1, 6, 0);
            due.is("of " + f + " floors", x.bestStairs(), f - 1);
        }
    }

    static void promise16_noneWalksWhereTheChainIsFaster() {
        CabinChain x = made(8, 4, 4, 4);
        due.is("would walk", x.person(0, 0, 7, 1, 1, 0, 7), 0);
        due.is("one that walks as told", x.cost(4, -1), 42);
        due.is("should not", x.bestStairs(), 0);
    }

    static void promise16_ofSeveralTheLeast() {
        CabinChain x = made(8, 2, 1, 1);
        add(x, 0, 0, 0, 3, 1, 6, 0);
        due.is("3 as 4 to 7", x.bestStairs(), 3);
        due.is("all alike", x.cost(1, 3) - x.cost(1, 7), 0);
    }

    static void promise16_toldOnesAreNothingToIt() {
        for (int stairs = 0; stairs <= 7; stairs++) {
            CabinChain x = made(4, 12, 3, 1);
            due.is("person", x.person(0, 0, 1, 1, 1, 0, stairs), 0);
            due.is("told " + stairs, x.bestStairs(), 1);
        }
    }

    static void promise16_bySpeedAsItIs() {
        CabinChain x = made(4, 12, 3, 1);
        child(x, 0, 0, 0, 1);
        child(x, 1, 0, 0, 3);
        due.is("by 1", x.bestStairs(), 3);
        x.speed(4);
        due.is("by 4", x.bestStairs(), 1);
    }

    static void promise16_thirty() {
        CabinChain x = made(8, 12, 1, 1);
        for (int i = 0; i < 30; i++) {
            add(x, i, 0, 0, 7, 2, 1, 0);
        }
        due.is("all walk", x.bestStairs(), 7);
    }

    static void promise16_asksOnly() {
        asksOnly("bestStairs", (x, s) -> x.bestStairs());
    }
}
