/** Promise 21: tell. */
public final class Promise21TellTest extends TestBase {
    public static void main(String[] args) throws ReflectiveOperationException {
        due.runTests(Promise21TellTest.class, "promise21_");
    }

    static void promise21_floorsFrom0ToTheLast() {
        for (int f = 2; f <= 8; f++) {
            CabinChain x = made(f, 4, 3, 1);
            due.is("floor 0 of " + f, x.tell(0, 0, 1), -1);
            due.is("the last of " + f, x.tell(f - 1, 1, 1), -1);
            due.is("one behind it", x.tell(f, 0, 1), BAD_TOLD);
        }
        refused("floor -1", (x, s) -> x.tell(-1, 0, 5), BAD_TOLD);
        refused("floor behind the last", (x, s) -> x.tell(s.floors(), 1, 5), BAD_TOLD);
        refused("least", (x, s) -> x.tell(LEAST, 0, 5), BAD_TOLD);
        refused("most", (x, s) -> x.tell(MOST, 1, 5), BAD_TOLD);
    }

    static void promise21_whatFrom0To1() {
        for (int what : new int[] {-1, 2, LEAST, MOST}) {
            refused("what " + what, (x, s) -> x.tell(0, what, 5), BAD_TOLD);
        }
    }

    static void promise21_numbersFromMinus1To100() {
        CabinChain x = new CabinChain();
        due.is("100", x.tell(0, 0, 100), -1);
        due.is("0", x.tell(0, 0, 0), 100);
        due.is("a gap", x.tell(0, 0, -1), 0);
        due.is("a gap again", x.tell(0, 0, -1), -1);
        for (int n : new int[] {-2, 101, -100, LEAST, MOST}) {
            refused("number " + n, (y, s) -> y.tell(0, 0, n), BAD_TOLD);
        }
    }

    static void promise21_severalWrong() {
        refused("all too small", (x, s) -> x.tell(-1, -1, -2), BAD_TOLD);
        refused("all too large", (x, s) -> x.tell(s.floors(), 2, 101), BAD_TOLD);
        refused("a gap of no floor", (x, s) -> x.tell(s.floors(), 0, -1), BAD_TOLD);
    }

    static void promise21_eachByItself() {
        CabinChain x = made(8, 2, 1, 1);
        for (int i = 0; i < 16; i++) {
            due.is("a gap", x.tell(i / 2, i % 2, 10 + i), -1);
        }
        for (int i = 0; i < 16; i++) {
            due.is("what it was", x.tell(i / 2, i % 2, -1), 10 + i);
        }
    }

    static void promise21_howManyAreTold() {
        CabinChain x = new CabinChain();
        x.tell(0, 0, 0);
        due.is("zero is told", x.count(8), 1);
        x.tell(0, 0, 7);
        due.is("told anew is one still", x.count(8), 1);
        x.tell(1, 1, 100);
        due.is("two", x.count(8), 2);
        x.tell(0, 0, -1);
        x.tell(1, 1, -1);
        due.is("gaps are none", x.count(8), 0);
    }
}
