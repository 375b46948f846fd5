/** What the tests of the promises share. */
abstract class TestBase {
    static final int LEAST = Integer.MIN_VALUE;
    static final int MOST = Integer.MAX_VALUE;
    static final int BAD = CabinChain.BAD;
    static final int NO = CabinChain.NO;
    static final int FULL = CabinChain.FULL;
    static final int NONE = CabinChain.NONE;
    static final int BAD_TOLD = -100;
    static final int BAD_BESIDE = -1000000;

    // What about(p, 0) answers.
    static final int YET_TO_COME = 0;
    static final int STANDS = 1;
    static final int IN_BOX = 2;
    static final int WALKS = 3;
    static final int DONE = 4;

    static final Due due = new Due();

    /** A call on an object that has been made in some state. */
    interface Call {
        int on(CabinChain x, State state);
    }

    static CabinChain made(int floors, int steps, int open, int speed) {
        CabinChain x = new CabinChain();
        due.is("house", x.house(floors, steps, open, speed), 2 * floors + 2);
        return x;
    }

    static void add(CabinChain x, int number, int tick, int from, int to, int width, int need, int fear) {
        due.is("person " + number, x.person(tick, from, to, width, need, fear, 0), number);
    }

    /** A child that needs one tick, fears nothing and does not walk. */
    static void child(CabinChain x, int number, int tick, int from, int to) {
        add(x, number, tick, from, to, 1, 1, 0);
    }

    static void ticksTo(CabinChain x, int ticks) {
        int were = x.count(1);
        while (were < ticks) {
            were = x.ticks(Math.min(200, ticks - were));
        }
        due.is("ticks", were, ticks);
    }

    static void shutAll(CabinChain x, int floors) {
        for (int floor = 0; floor < floors; floor++) {
            due.is("shut", x.shut(floor, true), 0);
        }
    }

    /** Box 0 up between 1 and 2 with door 1 shut, box 5 down below 0: stopped where they need both ways. */
    static CabinChain stoppedApart() {
        CabinChain x = made(3, 6, 2, 1);
        child(x, 0, 0, 0, 2);
        child(x, 1, 0, 1, 0);
        x.ticks(1);
        x.shut(0, true);
        x.ticks(8);
        x.stop(true);
        x.shut(0, false);
        x.shut(1, true);
        return x;
    }

    /** In every state the call is refused, and all is as it would be without it. */
    static void refused(String name, Call call, int want) {
        for (State state : State.all()) {
            refusedIn(state, name, call, want);
        }
    }

    static void refusedIn(State state, String name, Call call, int want) {
        CabinChain x = state.make().get();
        due.is(name + " (" + state.name() + ")", call.on(x, state), want);
        sameAsWithout(state, name, x);
    }

    /** In every state the call may be asked, whatever it answers, and all is as it would be without it. */
    static void asksOnly(String name, Call call) {
        for (State state : State.all()) {
            CabinChain x = state.make().get();
            call.on(x, state);
            sameAsWithout(state, name, x);
        }
    }

    private static void sameAsWithout(State state, String name, CabinChain x) {
        due.same("after " + name + " (" + state.name() + ")", Sight.of(x), Sight.of(state.make().get()));
    }
}
