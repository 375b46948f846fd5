/** Promise 22: fits. */
public final class Promise22FitsTest extends TestBase {
    public static void main(String[] args) throws ReflectiveOperationException {
        due.runTests(Promise22FitsTest.class, "promise22_");
    }

    static void promise22_insideFrom0To100() {
        CabinChain x = new CabinChain();
        due.is("0", x.fits(0), 1);
        due.is("100", x.fits(100), 1);
        for (int n : new int[] {-1, 101, LEAST, MOST}) {
            refused("inside " + n, (y, s) -> y.fits(n), BAD);
        }
        asksOnly("fits", (y, s) -> y.fits(50));
    }

    private static CabinChain told(int in0, int out0, int in1, int out1) {
        CabinChain x = new CabinChain();
        x.tell(0, 0, in0);
        x.tell(0, 1, out0);
        x.tell(1, 0, in1);
        x.tell(1, 1, out1);
        return x;
    }

    /** All from the least to the most fit, and no other. */
    private static void fitFromTo(CabinChain x, int least, int most) {
        for (int n = 0; n <= 100; n++) {
            due.is("inside " + n, x.fits(n), n >= least && n <= most ? 1 : 0);
        }
    }

    static void promise22_withoutGapsJustOneFits() {
        fitFromTo(told(0, 0, 0, 0), 0, 0);
        fitFromTo(told(50, 20, 3, 10), 23, 23);
        fitFromTo(told(100, 0, 0, 0), 100, 100);
        fitFromTo(told(100, 100, 100, 0), 100, 100);
    }

    static void promise22_lessThanNoneFitsNothing() {
        fitFromTo(told(0, 1, 0, 0), 1, 0);
        fitFromTo(told(0, 100, 0, 100), 1, 0);
    }

    static void promise22_moreThanAHundredFitsNothing() {
        fitFromTo(told(100, 0, 1, 0), 1, 0);
        fitFromTo(told(100, 0, 100, 0), 1, 0);
    }

    static void promise22_aGapInIsFrom0To100() {
        fitFromTo(told(30, 0, -1, 0), 30, 100);
        fitFromTo(told(0, 60, -1, 10), 0, 30);
        fitFromTo(told(0, 0, -1, 0), 0, 100);
        fitFromTo(told(0, 100, -1, 0), 0, 0);
        fitFromTo(told(0, 100, -1, 1), 1, 0);
    }

    static void promise22_aGapOutIsFrom0To100() {
        fitFromTo(told(30, -1, 40, 0), 0, 70);
        fitFromTo(told(100, -1, 80, 0), 80, 100);
        fitFromTo(told(100, -1, 100, 0), 100, 100);
        fitFromTo(told(0, -1, 0, 0), 0, 0);
        fitFromTo(told(0, -1, 0, 1), 1, 0);
    }

    static void promise22_twoGapsTogether() {
        fitFromTo(told(-1, 100, -1, 90), 0, 10);
        fitFromTo(told(-1, 100, -1, 100), 0, 0);
        fitFromTo(told(100, -1, 100, -1), 0, 100);
        fitFromTo(told(3, -1, -1, 7), 0, 96);
    }

    static void promise22_allFloorsOfEight() {
        CabinChain x = made(8, 2, 1, 1);
        for (int i = 0; i < 16; i++) {
            x.tell(i / 2, i % 2, 0);
        }
        fitFromTo(x, 0, 0);
        CabinChain y = made(8, 2, 1, 1);
        for (int i = 0; i < 16; i++) {
            y.tell(i / 2, i % 2, i % 2 == 0 ? 10 : 0);
        }
        fitFromTo(y, 80, 80);
        y.tell(7, 1, 9);
        fitFromTo(y, 71, 71);
        y.tell(7, 0, -1);
        fitFromTo(y, 61, 100);
    }

    /** Told ones alone are asked, not those that there were. */
    static void promise22_countsAreNothingToIt() {
        CabinChain x = new CabinChain();
        child(x, 0, 0, 0, 1);
        x.ticks(1);
        x.tell(0, 0, 5);
        x.tell(0, 1, 0);
        x.tell(1, 0, 0);
        x.tell(1, 1, 0);
        fitFromTo(x, 5, 5);
    }
}
