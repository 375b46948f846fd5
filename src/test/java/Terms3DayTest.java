/** The terms: THE DAY. */
public final class Terms3DayTest extends TestBase {
    public static void main(String[] args) throws ReflectiveOperationException {
        due.runTests(Terms3DayTest.class, "terms3_");
    }

    /** One after another they take the boxes from floor 0 to floor 7, the last one is done in the last tick. */
    static void terms3_tick999IsOfTheDay() {
        CabinChain x = made(8, 8, 1, 1);
        for (int i = 0; i < 6; i++) {
            child(x, i, 900, 0, 7);
        }
        due.is("all are done", x.day(0), 0);
        due.is("the last is the dearest", x.day(3), 5);
        due.is("costs", x.cost(1, -1), 59 + 67 + 75 + 83 + 91 + 99);
    }

    static void terms3_tick1000IsNotOfTheDay() {
        CabinChain x = made(8, 11, 1, 1);
        for (int i = 0; i < 3; i++) {
            child(x, i, 900, 0, 7);
        }
        due.is("one is not done", x.day(0), 1);
        due.is("costs", x.cost(1, -1), 78 + 89 + 100);
        ticksTo(x, 1001);
        due.is("as it is, it is done in tick 1000", x.about(2, 2), 1000);
        due.is("at the same cost", x.about(2, 4), 100);
    }

    /** Over and under in turns, the last time over in tick 999, so that a day of one tick less would tell one less. */
    static void terms3_turnedTillTick999() {
        CabinChain x = made(2, 5, 3, 2);
        add(x, 0, 0, 0, 1, 1, 2, 0);
        due.is("over in ticks 9, 24 .. 999, under in 17, 32 .. 992", x.day(1), 67 + 66);
        ticksTo(x, 999);
        due.is("ahead of the last tick", x.about(0, 3), 132);
        x.ticks(1);
        due.is("by the last tick", x.about(0, 3), 133);
    }

    static void terms3_nothingIsShutInTheDay() {
        CabinChain x = new CabinChain();
        child(x, 0, 0, 0, 1);
        shutAll(x, 2);
        due.is("cost", x.cost(1, -1), 3);
        due.is("all are done", x.day(0), 0);
        due.is("best speed", x.bestSpeed(), 2);
        due.is("the doors are shut still", x.shut(0, true) + x.shut(1, true), 2);
    }

    static void terms3_nothingIsStoppedInTheDay() {
        CabinChain x = new CabinChain();
        child(x, 0, 0, 0, 1);
        x.stop(true);
        due.is("cost", x.cost(1, -1), 3);
        due.is("all are done", x.day(0), 0);
        due.is("stopped still", x.stop(true), 1);
    }

    static void terms3_theDayBeginsAtFirst() {
        CabinChain x = new CabinChain();
        child(x, 0, 0, 0, 1);
        child(x, 1, 2, 1, 0);
        int cost = x.cost(1, -1);
        due.is("cost", cost, 3 + 5);
        ticksTo(x, 1003);
        due.is("cost in tick 1003", x.cost(1, -1), cost);
        due.is("all done", x.day(0), 0);
    }

    static void terms3_theDayGoesBySpeedAsItIs() {
        CabinChain x = made(4, 4, 4, 1);
        child(x, 0, 0, 0, 3);
        due.is("keep by 1", x.keep(), 1);
        due.is("asked of 4", x.cost(4, -1), 3);
        due.is("speed is 1 still", x.speed(1), 1);
        due.is("by 1 nothing is less", x.beside(0, 0), 0);
        x.speed(4);
        due.is("by 4 one has less", x.beside(0, 0), 1);
        due.is("by 4 together", x.beside(0, 2), 11 - 3);
    }

    static void terms3_thirtyInOneLine() {
        CabinChain x = made(8, 12, 1, 1);
        for (int i = 0; i < 30; i++) {
            add(x, i, 0, 0, 7, 2, 1, 0);
        }
        due.is("one box each twelve ticks", x.cost(1, -1), 30 * 95 + 12 * (29 * 30 / 2));
        due.is("all are done", x.day(0), 0);
        due.is("the longest line", x.day(2), 30);
        due.is("the last pays most", x.day(3), 29);
    }

    static void terms3_askingChangesNothing() {
        asksOnly("safe", (x, s) -> x.safe(2));
        asksOnly("cost", (x, s) -> x.cost(2, 3));
        asksOnly("bestSpeed", (x, s) -> x.bestSpeed());
        asksOnly("bestStairs", (x, s) -> x.bestStairs());
        for (int what = 0; what <= 3; what++) {
            int asked = what;
            asksOnly("day", (x, s) -> x.day(asked));
        }
    }
}
