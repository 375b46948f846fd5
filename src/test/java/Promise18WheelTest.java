/** Promise 18: wheel. */
public final class Promise18WheelTest extends TestBase {
    public static void main(String[] args) throws ReflectiveOperationException {
        due.runTests(Promise18WheelTest.class, "promise18_");
    }

    static void promise18_notStopped() {
        refusedIn(State.NEW, "nobody", (x, s) -> x.wheel(), NO);
        refusedIn(State.CROWD, "thirty", (x, s) -> x.wheel(), NO);
        refusedIn(State.LATE, "late", (x, s) -> x.wheel(), NO);
        CabinChain x = State.BUSY.make().get();
        shutTheOthers(x);
        due.is("stopped, and they can't be", x.wheel(), NONE);
        x.stop(false);
        due.is("not stopped, and they can't be", x.wheel(), NO);
    }

    private static void shutTheOthers(CabinChain busy) {
        for (int floor = 0; floor < 3; floor++) {
            due.is("shut " + floor, busy.shut(floor, true), 0);
        }
    }

    static void promise18_asksOnly() {
        asksOnly("wheel", (x, s) -> x.wheel());
    }

    static void promise18_nobodyIsInABox() {
        CabinChain x = new CabinChain();
        add(x, 0, 0, 0, 1, 1, 6, 0);
        x.ticks(3);
        x.stop(true);
        due.is("between floors", x.wheel(), 0);
        shutAll(x, 2);
        due.is("with all doors shut", x.wheel(), 0);
    }

    /** In box 0 of a new object, stopped when it is at that place, past shut doors that then are opened. */
    private static CabinChain stoppedAt(int place) {
        CabinChain x = new CabinChain();
        child(x, 0, 0, 0, 1);
        x.ticks(1);
        shutAll(x, 2);
        ticksTo(x, place);
        x.stop(true);
        x.shut(0, false);
        x.shut(1, false);
        due.is("at its place", x.box(0, 0), place % 24);
        due.is("in box 0", x.about(0, 1), 0);
        return x;
    }

    static void promise18_whereItStands() {
        due.is("phase 1", stoppedAt(1).wheel(), 0);
        due.is("phase 2, the last that is open", stoppedAt(2).wheel(), 0);
        due.is("phase 3, the first that is not", stoppedAt(3).wheel(), 1);
        due.is("phase 0", stoppedAt(4).wheel(), 0);
    }

    static void promise18_shutDoorsDoNotLetOut() {
        CabinChain x = stoppedAt(2);
        x.shut(0, true);
        due.is("forth to floor 1", x.wheel(), 2);
        x.shut(1, true);
        due.is("nowhere", x.wheel(), NONE);
        x.shut(0, false);
        due.is("where it stands", x.wheel(), 0);
    }

    static void promise18_forthOrBackWhicheverIsLess() {
        CabinChain x = stoppedAt(3);
        due.is("one either way", x.wheel(), 1);
        x.shut(0, true);
        due.is("one forth", x.wheel(), 1);
        x.shut(0, false);
        x.shut(1, true);
        due.is("one back", x.wheel(), 1);
        CabinChain y = stoppedAt(6);
        y.shut(1, true);
        due.is("four back, ten forth", y.wheel(), 4);
    }

    static void promise18_overTheTopNoneIsLetOut() {
        due.is("its first step: two back", stoppedAt(8).wheel(), 2);
        due.is("three either way", stoppedAt(9).wheel(), 3);
        due.is("two forth", stoppedAt(10).wheel(), 2);
        due.is("its last step: one forth", stoppedAt(11).wheel(), 1);
    }

    static void promise18_underTheBottomNoneIsLetOut() {
        due.is("its first step: two back", stoppedAt(20).wheel(), 2);
        due.is("three either way", stoppedAt(21).wheel(), 3);
        due.is("two forth, round", stoppedAt(22).wheel(), 2);
        due.is("its last step: one forth, round", stoppedAt(23).wheel(), 1);
        CabinChain x = stoppedAt(22);
        x.shut(0, true);
        due.is("six forth to floor 1, round", x.wheel(), 6);
        CabinChain y = stoppedAt(24);
        y.shut(0, true);
        due.is("four forth from the first place", y.wheel(), 4);
    }

    /** The chain stands where a round begins, and only floor 0, four steps back, is open. */
    static void promise18_roundBack() {
        CabinChain x = made(3, 4, 1, 1);
        child(x, 0, 31, 1, 2);
        x.ticks(32);
        due.is("moved", x.count(2), 0);
        due.is("in box 1", x.about(0, 1), 1);
        x.stop(true);
        x.shut(1, true);
        x.shut(2, true);
        due.is("four back", x.wheel(), 4);
        due.is("let out", x.turn(-4), 1);
        due.is("moved back", x.count(2), 28);
        due.is("stands at 0", x.stands(0, 0), 0);
    }

    static void promise18_roundForth() {
        CabinChain x = made(3, 4, 1, 1);
        child(x, 0, 27, 1, 2);
        x.ticks(31);
        due.is("moved", x.count(2), 31);
        due.is("in box 2", x.about(0, 1), 2);
        x.stop(true);
        x.shut(1, true);
        due.is("one forth", x.wheel(), 1);
        due.is("let out", x.turn(1), 1);
        due.is("moved forth", x.count(2), 0);
        due.is("done", x.about(0, 2), 31);
    }

    /** Up at floor 4 of 8 with only one door left open: as far as 3 S steps, and not one more. */
    static void promise18_asFarAs3SForth() {
        for (int s = 2; s <= 12; s++) {
            CabinChain x = stoppedUpAt4(s);
            x.shut(7, false);
            due.is("3 S forth", x.wheel(), 3 * s);
            x.turn(-1);
            due.is("one more", x.wheel(), NONE);
            x.turn(2);
            due.is("one less", x.wheel(), 3 * s - 1);
        }
    }

    static void promise18_asFarAs3SBack() {
        for (int s = 2; s <= 12; s++) {
            CabinChain x = stoppedUpAt4(s);
            x.shut(1, false);
            due.is("3 S back", x.wheel(), 3 * s);
            x.turn(1);
            due.is("one more", x.wheel(), NONE);
            x.turn(-2);
            due.is("one less", x.wheel(), 3 * s - 1);
        }
    }

    private static CabinChain stoppedUpAt4(int s) {
        CabinChain x = made(8, s, 1, 1);
        child(x, 0, s - 1, 4, 7);
        x.ticks(s);
        due.is("in box 3", x.about(0, 1), 3);
        x.stop(true);
        shutAll(x, 8);
        return x;
    }

    /** One in box 0 up at 1, one in box 5 up at 6, all doors shut. */
    private static CabinChain stoppedFarApart() {
        CabinChain x = made(8, 2, 1, 1);
        child(x, 0, 1, 1, 2);
        child(x, 1, 1, 6, 7);
        x.ticks(2);
        due.is("box 0", x.about(0, 1), 0);
        due.is("box 5", x.about(1, 1), 5);
        x.stop(true);
        shutAll(x, 8);
        return x;
    }

    static void promise18_oneThatCanNotBeIsEnough() {
        CabinChain x = stoppedFarApart();
        due.is("neither can be", x.wheel(), NONE);
        x.shut(0, false);
        due.is("one can be", x.wheel(), NONE);
        x.shut(7, false);
        due.is("two back, then four forth", x.wheel(), 6);
        x.shut(1, false);
        due.is("two forth", x.wheel(), 2);
        x.shut(6, false);
        due.is("both where they stand", x.wheel(), 0);
    }

    static void promise18_bothWaysInWhateverOrder() {
        CabinChain x = stoppedApart();
        due.is("two back, then five forth", x.wheel(), 7);
        x.shut(0, true);
        due.is("three forth, then back to floor 2", x.wheel(), 3 + 17);
        x.shut(0, false);
        x.shut(1, false);
        due.is("both back", x.wheel(), 2);
    }

    static void promise18_speedIsNothingToIt() {
        for (int v = 1; v <= 4; v++) {
            CabinChain x = stoppedAt(3);
            x.speed(v);
            due.is("by " + v, x.wheel(), 1);
        }
    }

    /** By hand none steps, so it is nothing how long one needs. */
    static void promise18_needIsNothingToIt() {
        CabinChain x = made(2, 6, 6, 1);
        add(x, 0, 0, 0, 1, 1, 6, 0);
        x.ticks(6);
        due.is("in a box", x.about(0, 0), IN_BOX);
        x.stop(true);
        x.speed(4);
        due.is("where it stands", x.wheel(), 0);
    }
}
