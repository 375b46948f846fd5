import java.util.List;
import java.util.function.Supplier;

/** How things may stand when a call comes: each is made anew as often as it is asked for. */
record State(String name, int floors, int steps, int people, int kept, Supplier<CabinChain> make) {
    static final State NEW = new State("new", 2, 4, 0, 0, CabinChain::new);
    static final State BUSY = new State("busy", 4, 3, 5, 2, State::busy);
    static final State CROWD = new State("crowd", 8, 2, 30, 3, State::crowd);
    static final State LATE = new State("late", 2, 12, 2, 1, State::late);

    static List<State> all() {
        return List.of(NEW, BUSY, CROWD, LATE);
    }

    /** Stopped between floors at tick 8, one in a box, one done, one walks, one stands, one has yet to come. */
    private static CabinChain busy() {
        CabinChain x = new CabinChain();
        x.house(4, 3, 2, 1);
        x.person(0, 0, 3, 2, 1, 0, 0);
        x.person(0, 0, 1, 1, 1, 0, 0);
        x.person(1, 0, 3, 1, 1, 0, 3);
        x.person(2, 2, 0, 1, 6, 0, 0);
        x.person(50, 3, 1, 2, 2, 1, 1);
        x.keep();
        x.speed(2);
        x.keep();
        x.speed(1);
        x.ticks(8);
        x.tell(0, 0, 2);
        x.tell(1, 1, 0);
        x.tell(3, 0, 100);
        x.shut(3, true);
        x.stop(true);
        return x;
    }

    /** Thirty people, three kept days, every count told, in the tick 6. */
    private static CabinChain crowd() {
        CabinChain x = new CabinChain();
        x.house(8, 2, 1, 1);
        for (int i = 0; i < 30; i++) {
            x.person(i % 9, i % 8, (3 * i + 1) % 8, 1 + i % 2, 1, i % 3 == 0 ? 1 : 0, i % 4);
        }
        for (int i = 0; i < 16; i++) {
            x.tell(i / 2, i % 2, i);
        }
        x.keep();
        x.keep();
        x.keep();
        x.ticks(6);
        return x;
    }

    /** All of the 2000 ticks are gone by, and one that needs too much stands still. */
    private static CabinChain late() {
        CabinChain x = new CabinChain();
        x.house(2, 12, 12, 4);
        x.person(0, 0, 1, 1, 1, 0, 0);
        x.person(900, 1, 0, 2, 6, 1, 0);
        x.keep();
        for (int i = 0; i < 10; i++) {
            x.ticks(200);
        }
        return x;
    }
}
