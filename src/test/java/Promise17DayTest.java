/** Promise 17: day. */
public final class Promise17DayTest extends TestBase {
    public static void main(String[] args) throws ReflectiveOperationException {
        due.runTests(Promise17DayTest.class, "promise17_");
    }

    static void promise17_whatFrom0To3() {
        for (int what : new int[] {-1, 4, LEAST, MOST}) {
            refused("what " + what, (x, s) -> x.day(what), BAD);
        }
    }

    static void promise17_nobody() {
        CabinChain x = new CabinChain();
        due.is("not done", x.day(0), 0);
        due.is("turned", x.day(1), 0);
        due.is("line", x.day(2), 0);
        due.is("dearest", x.day(3), NONE);
    }

    static void promise17_oneThatIsDone() {
        CabinChain x = new CabinChain();
        child(x, 0, 0, 0, 1);
        due.is("not done", x.day(0), 0);
        due.is("turned", x.day(1), 0);
        due.is("line", x.day(2), 0);
        due.is("dearest", x.day(3), 0);
    }

    static void promise17_thirtyOfWhichNoneIsDone() {
        CabinChain x = new CabinChain();
        for (int i = 0; i < 30; i++) {
            add(x, i, 0, 0, 1, 1, 6, 0);
        }
        due.is("not done", x.day(0), 30);
        due.is("turned", x.day(1), 0);
        due.is("line", x.day(2), 30);
        due.is("dearest", x.day(3), 0);
    }

    static void promise17_notDoneAreThoseInBoxesToo() {
        CabinChain x = made(2, 5, 3, 2);
        add(x, 0, 0, 0, 1, 1, 2, 0);
        add(x, 1, 0, 0, 1, 1, 1, 0);
        add(x, 2, 3, 1, 0, 1, 3, 0);
        due.is("one rides round, one stands", x.day(0), 2);
    }

    static void promise17_turnedTogether() {
        CabinChain x = made(2, 5, 3, 2);
        add(x, 0, 0, 0, 1, 1, 2, 0);
        due.is("one", x.day(1), 67 + 66);
        add(x, 1, 900, 0, 1, 1, 2, 0);
        ticksTo(x, 1000);
        due.is("two", x.day(1), x.about(0, 3) + x.about(1, 3));
        due.isTrue("of two", x.about(1, 3) > 0);
    }

    /** Who comes and steps in in one tick is in no line at its end. */
    static void promise17_lineAtTheEndOfATick() {
        CabinChain x = new CabinChain();
        child(x, 0, 0, 0, 1);
        child(x, 1, 0, 1, 0);
        due.is("both step in at once", x.day(2), 0);
        child(x, 2, 0, 0, 1);
        due.is("one waits", x.day(2), 1);
        child(x, 3, 0, 1, 0);
        due.is("one at each floor", x.day(2), 1);
        child(x, 4, 0, 0, 1);
        due.is("two at one floor", x.day(2), 2);
    }

    static void promise17_lineThatComesLate() {
        CabinChain x = new CabinChain();
        child(x, 0, 0, 0, 1);
        for (int i = 1; i <= 5; i++) {
            add(x, i, 900, 1, 0, 1, 6, 0);
        }
        due.is("five", x.day(2), 5);
    }

    static void promise17_dearestOfSeveralTheLowest() {
        CabinChain x = new CabinChain();
        child(x, 0, 0, 0, 1);
        child(x, 1, 4, 0, 1);
        child(x, 2, 8, 0, 1);
        due.is("all alike", x.day(3), 0);
        add(x, 3, 8, 0, 1, 1, 6, 0);
        add(x, 4, 8, 0, 1, 1, 6, 0);
        due.is("two are never done", x.day(3), 3);
        add(x, 5, 7, 0, 1, 1, 6, 0);
        due.is("one of them has come sooner", x.day(3), 5);
    }

    static void promise17_dearestOfThirtyIsTheLast() {
        CabinChain x = new CabinChain();
        for (int i = 0; i < 29; i++) {
            child(x, i, 30 * i, 0, 1);
        }
        add(x, 29, 900, 0, 1, 1, 6, 0);
        due.is("29", x.day(3), 29);
    }
}
