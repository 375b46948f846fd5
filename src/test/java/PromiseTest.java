/** Each promise by hand: what is usual, the edges that the document names, and wrong numbers. */
public final class PromiseTest {
    private static final int LEAST = Integer.MIN_VALUE;
    private static final int MOST = Integer.MAX_VALUE;
    private static final int BAD = CabinChain.BAD;
    private static final int NO = CabinChain.NO;
    private static final int FULL = CabinChain.FULL;
    private static final int NONE = CabinChain.NONE;

    private static final Due due = new Due();

    public static void main(String[] args) {
        newObject();
        house();
        houseForgets();
        person();
        speed();
        anew();
        ticks();
        oneStepsInATick();
        linesLetOthersPass();
        walkers();
        overTheTop();
        fearThenTheOtherBoxAtOnce();
        fearThenTheOtherBoxLater();
        missedFloors();
        stop();
        shut();
        box();
        left();
        about();
        stands();
        safe();
        cost();
        bestSpeed();
        bestStairs();
        day();
        dayEnds();
        dayGoesBySpeedAsItIs();
        fearAtTheTop();
        thirtyInOneLine();
        wheel();
        wheelBothWays();
        turn();
        turnAndStandAgain();
        turnTurnsNobody();
        counted();
        tell();
        fits();
        wrong();
        keep();
        beside();
        count();
        due.end();
    }

    private static CabinChain made(int floors, int steps, int open, int speed) {
        CabinChain x = new CabinChain();
        due.is("house", x.house(floors, steps, open, speed), 2 * floors + 2);
        return x;
    }

    private static void add(CabinChain x, int number, int tick, int from, int to, int width, int need, int fear) {
        due.is("person " + number, x.person(tick, from, to, width, need, fear, 0), number);
    }

    private static void newObject() {
        due.is("BAD", BAD, -1);
        due.is("NO", NO, -2);
        due.is("FULL", FULL, -3);
        due.is("NONE", NONE, -4);
        CabinChain x = new CabinChain();
        for (int what = 0; what <= 8; what++) {
            due.is("new: count " + what, x.count(what), 0);
        }
        due.is("new: two floors", x.box(2, 1), 100);
        due.is("new: six boxes", x.box(5, 1), 101);
        due.is("new: no seventh box", x.box(6, 0), BAD);
        due.is("new: four steps", x.box(1, 0), 4);
        due.is("new: open for three", x.left(), 3);
        due.is("new: speed 1", x.speed(1), 1);
        due.is("new: goes", x.stop(false), 0);
        due.is("new: open doors", x.shut(0, false) + x.shut(1, false), 0);
    }

    private static void house() {
        CabinChain x = new CabinChain();
        due.is("house least", x.house(2, 2, 1, 1), 6);
        due.is("house most", x.house(8, 12, 12, 4), 18);
        due.is("house open as long as steps", x.house(3, 2, 2, 2), 8);
        int[][] bad = {
            {1, 4, 3, 1}, {9, 4, 3, 1}, {LEAST, 4, 3, 1}, {MOST, 4, 3, 1},
            {2, 1, 1, 1}, {2, 13, 3, 1}, {2, LEAST, 1, 1}, {2, MOST, 1, 1},
            {2, 4, 0, 1}, {2, 4, 5, 1}, {2, 4, -1, 1}, {2, 12, 13, 1}, {2, 4, MOST, 1},
            {2, 4, 3, 0}, {2, 4, 3, 5}, {2, 3, 3, 4}, {2, 2, 1, 3}, {2, 4, 3, LEAST}, {2, 4, 3, MOST},
        };
        for (int[] h : bad) {
            due.is("house bad", x.house(h[0], h[1], h[2], h[3]), BAD);
        }
        due.is("house bad changes nothing", x.box(7, 1), 101);
        due.is("house bad leaves the speed", x.speed(1), 2);
    }

    private static void houseForgets() {
        CabinChain x = new CabinChain();
        add(x, 0, 0, 0, 1, 1, 1, 0);
        x.ticks(3);
        x.stop(true);
        x.shut(1, true);
        x.tell(0, 0, 7);
        x.tell(1, 1, 6);
        x.keep();
        due.is("bad house", x.house(2, 4, 3, 9), BAD);
        due.is("bad house keeps people", x.count(0), 1);
        due.is("bad house keeps days", x.count(7), 1);
        due.is("bad house keeps ticks", x.count(1), 3);
        due.is("house", x.house(3, 5, 4, 2), 8);
        for (int what = 0; what <= 8; what++) {
            due.is("house: count " + what, x.count(what), 0);
        }
        due.is("house: counts go", x.counted(0, 0), 0);
        due.is("house: told in go", x.tell(0, 0, -1), -1);
        due.is("house: told out go", x.tell(1, 1, -1), -1);
        due.is("house: kept go", x.beside(0, 0), -1000000);
        due.is("house: goes", x.stop(false), 0);
        due.is("house: doors open", x.shut(1, false), 0);
        due.is("house: speed", x.speed(1), 2);
        due.is("house: people go", x.about(0, 0), BAD);
        due.is("house: numbers begin anew", x.person(0, 0, 2, 1, 1, 0, 0), 0);
    }

    private static void person() {
        CabinChain x = made(3, 4, 3, 1);
        int[][] bad = {
            {-1, 0, 1, 1, 1, 0, 0}, {901, 0, 1, 1, 1, 0, 0}, {LEAST, 0, 1, 1, 1, 0, 0}, {MOST, 0, 1, 1, 1, 0, 0},
            {0, -1, 1, 1, 1, 0, 0}, {0, 3, 1, 1, 1, 0, 0}, {0, 0, -1, 1, 1, 0, 0}, {0, 0, 3, 1, 1, 0, 0},
            {0, 2, 2, 1, 1, 0, 0}, {0, 0, 1, 0, 1, 0, 0}, {0, 0, 1, 3, 1, 0, 0}, {0, 0, 1, 1, 0, 0, 0},
            {0, 0, 1, 1, 7, 0, 0}, {0, 0, 1, 1, 1, -1, 0}, {0, 0, 1, 1, 1, 2, 0}, {0, 0, 1, 1, 1, 0, -1},
            {0, 0, 1, 1, 1, 0, 8}, {0, 0, 1, 1, 1, 0, MOST}, {0, MOST, LEAST, 1, 1, 0, 0},
        };
        for (int[] p : bad) {
            due.is("person bad", x.person(p[0], p[1], p[2], p[3], p[4], p[5], p[6]), BAD);
        }
        due.is("nobody yet", x.count(0), 0);
        due.is("person least", x.person(0, 0, 1, 1, 1, 0, 0), 0);
        due.is("person most", x.person(900, 2, 0, 2, 6, 1, 7), 1);
        x.ticks(5);
        due.is("tick gone by", x.person(4, 0, 1, 1, 1, 0, 0), NO);
        due.is("bad before no", x.person(4, 0, 1, 1, 1, 0, 9), BAD);
        due.is("tick that is next", x.person(5, 0, 1, 1, 1, 0, 0), 2);
        for (int i = 3; i < 30; i++) {
            due.is("person " + i, x.person(500, 0, 1, 1, 1, 0, 0), i);
        }
        due.is("full", x.person(500, 0, 1, 1, 1, 0, 0), FULL);
        due.is("no before full", x.person(0, 0, 1, 1, 1, 0, 0), NO);
        due.is("bad before full", x.person(500, 1, 1, 1, 1, 0, 0), BAD);
        due.is("thirty", x.count(0), 30);
    }

    private static void speed() {
        CabinChain x = made(2, 3, 3, 1);
        due.is("speed 0", x.speed(0), BAD);
        due.is("speed beyond steps", x.speed(4), BAD);
        due.is("speed beyond all", x.speed(MOST), BAD);
        due.is("speed below all", x.speed(LEAST), BAD);
        due.is("speed 3", x.speed(3), 1);
        due.is("left by 3", x.left(), 1);
        x.ticks(1);
        due.is("moves by 3", x.count(2), 3);
        due.is("speed 2", x.speed(2), 3);
        x.ticks(1);
        due.is("moves by 2", x.count(2), 5);
        CabinChain y = made(2, 12, 12, 1);
        due.is("speed 5", y.speed(5), BAD);
        due.is("speed 4", y.speed(4), 1);
    }

    private static void anew() {
        CabinChain x = new CabinChain();
        add(x, 0, 0, 0, 1, 1, 1, 0);
        add(x, 1, 0, 1, 0, 1, 1, 0);
        due.is("anew at first", x.anew(), 0);
        x.ticks(1);
        x.shut(1, true);
        x.ticks(8);
        x.stop(true);
        x.speed(2);
        x.tell(1, 1, 4);
        x.keep();
        due.is("turned ahead", x.about(0, 3), 1);
        due.is("anew", x.anew(), 9);
        due.is("anew: ticks", x.count(1), 0);
        due.is("anew: moved", x.count(2), 0);
        due.is("anew: yet to come", x.about(0, 0), 0);
        due.is("anew: nowhere", x.about(0, 1), NONE);
        due.is("anew: not done", x.about(1, 2), NONE);
        due.is("anew: not turned", x.about(0, 3), 0);
        due.is("anew: nobody in boxes", x.count(3) + x.box(0, 3) + x.box(0, 4), 0);
        due.is("anew: counts", x.counted(0, 0) + x.counted(1, 0) + x.counted(0, 1), 0);
        due.is("anew: goes", x.stop(false), 0);
        due.is("anew: door", x.shut(1, false), 0);
        due.is("anew: people stay", x.count(0), 2);
        due.is("anew: kept stay", x.count(7), 1);
        due.is("anew: told stay", x.tell(1, 1, -1), 4);
        due.is("anew: speed stays", x.speed(1), 2);
        x.ticks(5);
        due.is("anew: plays as before", x.about(0, 2), 3);
    }

    private static void ticks() {
        CabinChain x = new CabinChain();
        due.is("ticks 0", x.ticks(0), BAD);
        due.is("ticks -1", x.ticks(-1), BAD);
        due.is("ticks 201", x.ticks(201), BAD);
        due.is("ticks least", x.ticks(LEAST), BAD);
        due.is("ticks most", x.ticks(MOST), BAD);
        for (int i = 1; i <= 9; i++) {
            due.is("ticks 200", x.ticks(200), 200 * i);
        }
        due.is("ticks 199", x.ticks(199), 1999);
        due.is("beyond 2000", x.ticks(2), FULL);
        due.is("bad before full", x.ticks(201), BAD);
        due.is("full changes nothing", x.count(1), 1999);
        due.is("to 2000", x.ticks(1), 2000);
        due.is("moved is told within the chain", x.count(2), 2000 % 24);
        due.is("no more", x.ticks(1), FULL);
    }

    private static void oneStepsInATick() {
        CabinChain x = new CabinChain();
        add(x, 0, 0, 0, 1, 1, 1, 0);
        add(x, 1, 0, 0, 1, 1, 1, 0);
        add(x, 2, 0, 0, 1, 1, 1, 0);
        x.ticks(1);
        due.is("first in", x.box(0, 4), 1);
        due.is("second waits", x.stands(0, 0), 1);
        due.is("third waits", x.stands(0, 1), 2);
        x.ticks(1);
        due.is("second in", x.box(0, 4), 3);
        x.ticks(1);
        due.is("closed", x.stands(0, 0), 2);
        x.ticks(1);
        due.is("both out at once", x.count(6), 2);
        due.is("third takes the next", x.box(5, 4), 4);
    }

    private static void linesLetOthersPass() {
        CabinChain x = new CabinChain();
        add(x, 0, 0, 0, 1, 2, 3, 0);
        add(x, 1, 0, 0, 1, 2, 2, 0);
        add(x, 2, 0, 0, 1, 1, 1, 0);
        x.ticks(1);
        due.is("the slow one is passed by", x.box(0, 4), 2);
        due.is("and stays first", x.stands(0, 0), 0);
        x.ticks(1);
        due.is("again", x.box(0, 4), 6);
        due.is("widths", x.box(0, 3), 3);
        CabinChain y = made(2, 4, 4, 1);
        add(y, 0, 0, 0, 1, 1, 1, 0);
        add(y, 1, 0, 0, 1, 2, 1, 0);
        add(y, 2, 0, 0, 1, 2, 1, 0);
        add(y, 3, 0, 0, 1, 1, 1, 0);
        y.ticks(3);
        due.is("no room for two, but for a child", y.box(0, 4), 11);
        due.is("four is all", y.box(0, 3), 4);
        due.is("two waits", y.stands(0, 0), 2);
        due.is("alone", y.stands(0, 1), NONE);
    }

    private static void walkers() {
        CabinChain x = made(4, 4, 3, 1);
        due.is("walks two floors", x.person(1, 0, 2, 1, 1, 0, 2), 0);
        due.is("rides three", x.person(1, 0, 3, 1, 1, 0, 2), 1);
        due.is("walks down", x.person(2, 3, 0, 1, 6, 0, 3), 2);
        x.ticks(1);
        due.is("yet to come", x.about(0, 0), 0);
        x.ticks(1);
        due.is("walks", x.about(0, 0), 3);
        due.is("walks nowhere", x.about(0, 1), NONE);
        due.is("walks, not done", x.about(0, 2), NONE);
        due.is("walks, cost", x.about(0, 4), 999);
        due.is("stands or rides", x.about(1, 0), 2);
        x.ticks(11);
        due.is("walks still", x.about(0, 0), 3);
        x.ticks(1);
        due.is("done in tick 13", x.about(0, 0), 4);
        due.is("done at", x.about(0, 2), 13);
        due.is("done where", x.about(0, 1), 2);
        due.is("cost on foot", x.about(0, 4), 12);
        x.ticks(7);
        due.is("done at three floors", x.about(2, 2), 20);
        due.is("nobody counts on stairs", x.counted(2, 1) + x.counted(3, 0), 0);
    }

    private static void overTheTop() {
        CabinChain x = new CabinChain();
        add(x, 0, 0, 0, 1, 1, 1, 0);
        x.ticks(1);
        x.shut(1, true);
        x.ticks(6);
        due.is("not turned yet", x.about(0, 3), 0);
        x.ticks(1);
        due.is("over", x.box(0, 1), 100);
        due.is("turned", x.about(0, 3), 1);
        x.ticks(3);
        due.is("turned once only", x.about(0, 3), 1);
        x.ticks(8);
        due.is("down at 0", x.box(0, 1), 0);
        x.ticks(1);
        due.is("under", x.box(0, 1), 101);
        due.is("turned twice", x.about(0, 3), 2);
        x.shut(1, false);
        x.ticks(10);
        due.is("at last", x.about(0, 2), 27);
        due.is("turned as often", x.about(0, 3), 2);
    }

    private static void fearThenTheOtherBoxAtOnce() {
        CabinChain x = new CabinChain();
        add(x, 0, 0, 0, 1, 1, 1, 1);
        x.ticks(1);
        x.shut(1, true);
        x.ticks(14);
        due.is("down at 1", x.about(0, 1), 0);
        x.ticks(1);
        due.is("out of box 0, into box 2 in one tick", x.about(0, 1), 2);
        due.is("counted out", x.counted(0, 1), 1);
        due.is("counted in twice", x.counted(0, 0), 2);
        due.is("turned once", x.about(0, 3), 1);
    }

    private static void fearThenTheOtherBoxLater() {
        CabinChain x = new CabinChain();
        add(x, 0, 4, 0, 1, 1, 2, 1);
        x.ticks(5);
        due.is("in box 5", x.about(0, 1), 5);
        x.shut(1, true);
        x.ticks(15);
        due.is("box 1 has gone ahead: it stands", x.about(0, 0), 1);
        due.is("at 0", x.stands(0, 0), 0);
        x.ticks(1);
        due.is("in box 1", x.about(0, 1), 1);
        due.is("is in a box", x.about(0, 0), 2);
    }

    private static void missedFloors() {
        CabinChain x = made(2, 5, 3, 2);
        add(x, 0, 0, 0, 1, 1, 2, 1);
        x.ticks(4);
        due.is("waits for two ticks", x.about(0, 0), 1);
        x.ticks(1);
        due.is("in box 4", x.about(0, 1), 4);
        x.ticks(5);
        due.is("over", x.about(0, 3), 1);
        x.ticks(4);
        due.is("not at 0 yet", x.counted(0, 1), 0);
        x.ticks(1);
        due.is("fear needs two ticks at 0", x.counted(0, 1), 1);
        due.is("it stands there", x.stands(0, 0), 0);
        CabinChain y = made(2, 5, 3, 2);
        add(y, 0, 0, 0, 1, 1, 2, 0);
        y.ticks(17);
        due.is("not under yet", y.about(0, 3), 1);
        y.ticks(1);
        due.is("under", y.about(0, 3), 2);
        due.is("never out", y.counted(0, 1) + y.counted(1, 1), 0);
    }

    private static void stop() {
        CabinChain x = new CabinChain();
        add(x, 0, 2, 0, 1, 1, 2, 0);
        add(x, 1, 2, 0, 1, 1, 3, 0);
        x.ticks(1);
        due.is("stop", x.stop(true), 0);
        due.is("stop again", x.stop(true), 1);
        x.ticks(5);
        due.is("ticks go on", x.count(1), 6);
        due.is("nothing moves", x.count(2), 1);
        due.is("left as it stands", x.left(), 2);
        due.is("steps in all the same", x.about(0, 1), 0);
        due.is("who needs three can't", x.about(1, 0), 1);
        due.is("go on", x.stop(false), 1);
        due.is("go on again", x.stop(false), 0);
        x.ticks(1);
        due.is("moves", x.count(2), 2);
    }

    private static void shut() {
        CabinChain x = new CabinChain();
        add(x, 0, 0, 0, 1, 1, 1, 0);
        due.is("shut -1", x.shut(-1, true), BAD);
        due.is("shut 2", x.shut(2, true), BAD);
        due.is("shut least", x.shut(LEAST, false), BAD);
        due.is("shut most", x.shut(MOST, false), BAD);
        due.is("shut", x.shut(0, true), 0);
        due.is("shut again", x.shut(0, true), 1);
        x.ticks(6);
        due.is("nobody steps in", x.about(0, 0), 1);
        due.is("left all the same", x.left(), 1);
        due.is("the day has no shut door", x.day(0), 0);
        due.is("open", x.shut(0, false), 1);
        due.is("open again", x.shut(0, false), 0);
        x.ticks(2);
        due.is("the next box", x.about(0, 1), 4);
    }

    private static void box() {
        CabinChain x = made(3, 6, 2, 1);
        int[] floors = {0, 1, 2, 100, 2, 1, 0, 101};
        int[] ways = {1, 1, 1, NONE, 0, 0, 0, NONE};
        for (int b = 0; b < 8; b++) {
            due.is("place " + b, x.box(b, 0), 6 * b);
            due.is("floor " + b, x.box(b, 1), floors[b]);
            due.is("way " + b, x.box(b, 2), ways[b]);
        }
        add(x, 0, 0, 0, 2, 2, 1, 0);
        add(x, 1, 5, 0, 2, 1, 1, 0);
        add(x, 2, 5, 0, 2, 2, 1, 0);
        x.ticks(5);
        due.is("between floors it is still at 0", x.box(0, 1), 0);
        due.is("place moved", x.box(7, 0), 47);
        due.is("widths", x.box(0, 3), 2);
        due.is("bits", x.box(0, 4), 1);
        x.ticks(2);
        due.is("place comes round", x.box(7, 0), 1);
        due.is("widths together", x.box(7, 3), 3);
        due.is("bits together", x.box(7, 4), 6);
        due.is("box -1", x.box(-1, 0), BAD);
        due.is("box 8", x.box(8, 0), BAD);
        due.is("what -1", x.box(0, -1), BAD);
        due.is("what 5", x.box(0, 5), BAD);
        due.is("far off", x.box(LEAST, MOST), BAD);
    }

    private static void left() {
        CabinChain x = made(2, 7, 5, 2);
        due.is("five by two", x.left(), 3);
        x.ticks(1);
        due.is("three by two", x.left(), 2);
        x.ticks(1);
        due.is("one by two", x.left(), 1);
        x.ticks(1);
        due.is("not open", x.left(), 0);
        x.speed(4);
        x.ticks(1);
        due.is("two by four", x.left(), 1);
        CabinChain y = made(2, 3, 3, 1);
        y.ticks(2);
        due.is("open all along", y.left(), 1);
    }

    private static void about() {
        CabinChain x = new CabinChain();
        due.is("nobody", x.about(0, 0), BAD);
        add(x, 0, 3, 0, 1, 1, 1, 0);
        add(x, 1, 0, 0, 1, 1, 3, 0);
        due.is("yet to come", x.about(0, 0), 0);
        due.is("nowhere", x.about(0, 1), NONE);
        due.is("not done", x.about(0, 2), NONE);
        due.is("not turned", x.about(0, 3), 0);
        due.is("cost as if 1000", x.about(0, 4), 997);
        x.ticks(1);
        due.is("stands", x.about(1, 0), 1);
        due.is("stands at", x.about(1, 1), 0);
        due.is("one stands", x.count(4), 1);
        x.ticks(3);
        due.is("in a box", x.about(1, 0), 2);
        due.is("box", x.about(1, 1), 5);
        due.is("cost in a box", x.about(1, 4), 1000);
        x.ticks(4);
        due.is("done", x.about(1, 0), 4);
        due.is("done where", x.about(1, 1), 1);
        due.is("done when", x.about(1, 2), 7);
        due.is("cost", x.about(1, 4), 7);
        due.is("cost less coming", x.about(0, 4), x.about(0, 2) - 3);
        due.is("what 5", x.about(0, 5), BAD);
        due.is("what -1", x.about(0, -1), BAD);
        due.is("person 2", x.about(2, 0), BAD);
        due.is("person -1", x.about(-1, 0), BAD);
        due.is("far off", x.about(MOST, LEAST), BAD);
        doneLate(999, 999);
        doneLate(1000, 1000);
        doneLate(1001, 1000);
    }

    private static void doneLate(int tick, int cost) {
        CabinChain x = new CabinChain();
        add(x, 0, 0, 0, 1, 1, 1, 0);
        x.ticks(1);
        x.stop(true);
        for (int i = 0; i < 4; i++) {
            x.ticks(200);
        }
        x.ticks(tick - 801);
        due.is("let out", x.turn(3), 1);
        due.is("done at", x.about(0, 2), tick);
        due.is("cost is 1000 at most", x.about(0, 4), cost);
    }

    private static void stands() {
        CabinChain x = new CabinChain();
        x.shut(0, true);
        x.shut(1, true);
        add(x, 0, 1, 0, 1, 1, 1, 0);
        add(x, 1, 0, 0, 1, 1, 1, 0);
        add(x, 2, 1, 1, 0, 1, 1, 0);
        x.ticks(2);
        due.is("who came first", x.stands(0, 0), 1);
        due.is("who came then", x.stands(0, 1), 0);
        due.is("nobody behind", x.stands(0, 2), NONE);
        due.is("at 1", x.stands(1, 0), 2);
        due.is("far behind", x.stands(0, MOST), NONE);
        due.is("i -1", x.stands(0, -1), BAD);
        due.is("i least", x.stands(0, LEAST), BAD);
        due.is("floor -1", x.stands(-1, 0), BAD);
        due.is("floor 2", x.stands(2, 0), BAD);
        due.is("floor beyond the house", made(7, 2, 1, 1).stands(7, 0), BAD);
    }

    private static void safe() {
        CabinChain x = made(3, 6, 5, 1);
        due.is("nobody", x.safe(4), 1);
        due.is("walker", x.person(0, 0, 1, 1, 6, 0, 1), 0);
        due.is("a walker's need is nothing", x.safe(4), 1);
        due.is("nor is one's who walks down", x.person(0, 2, 1, 1, 6, 0, 1), 1);
        due.is("safe still", x.safe(4), 1);
        due.is("needs 3", x.person(0, 0, 2, 1, 3, 0, 1), 2);
        due.is("five by two is three", x.safe(2), 1);
        due.is("five by three is two", x.safe(3), 0);
        due.is("0", x.safe(0), BAD);
        due.is("5", x.safe(5), BAD);
        due.is("most", x.safe(MOST), BAD);
        due.is("beyond steps", made(3, 3, 1, 1).safe(4), BAD);
        CabinChain y = made(3, 6, 5, 1);
        add(y, 0, 0, 0, 2, 1, 6, 0);
        due.is("the first needs too much", y.safe(1), 0);
    }

    private static void cost() {
        CabinChain x = made(3, 4, 3, 1);
        due.is("nobody", x.cost(1, -1), 0);
        due.is("a", x.person(0, 0, 1, 1, 1, 0, 0), 0);
        due.is("b", x.person(10, 2, 0, 1, 1, 0, 2), 1);
        due.is("as told", x.cost(1, -1), 3 + 12);
        due.is("none walks", x.cost(1, 0), 3 + 9);
        due.is("one floor", x.cost(1, 1), 6 + 9);
        due.is("all walk", x.cost(1, 7), 6 + 12);
        due.is("at 4, all walk", x.cost(4, 2), 18);
        due.is("nothing is changed", x.count(1) + x.count(2) + x.speed(1), 1);
        due.is("0", x.cost(0, 0), BAD);
        due.is("5", x.cost(5, 0), BAD);
        due.is("k -2", x.cost(1, -2), BAD);
        due.is("k 8", x.cost(1, 8), BAD);
        due.is("beyond steps", made(3, 2, 1, 1).cost(3, 0), BAD);
        CabinChain y = made(3, 4, 3, 4);
        due.is("slow", y.person(100, 0, 1, 1, 2, 0, 0), 0);
        due.is("never done", y.cost(4, -1), 900);
    }

    private static void bestSpeed() {
        CabinChain x = made(3, 4, 3, 2);
        due.is("nobody", x.bestSpeed(), 1);
        add(x, 0, 0, 0, 2, 1, 2, 0);
        due.is("3 and 4 are not safe", x.bestSpeed(), 2);
        due.is("as it was", x.speed(2), 2);
        add(x, 1, 0, 0, 2, 1, 4, 0);
        due.is("none is safe", x.bestSpeed(), NONE);
        CabinChain y = made(3, 4, 3, 1);
        due.is("walker", y.person(0, 0, 2, 1, 6, 0, 2), 0);
        due.is("of several the least", y.bestSpeed(), 1);
        CabinChain z = made(8, 3, 3, 1);
        add(z, 0, 0, 0, 7, 1, 1, 0);
        due.is("steps at most", z.bestSpeed(), 3);
    }

    private static void bestStairs() {
        CabinChain x = made(4, 12, 3, 1);
        due.is("nobody", x.bestStairs(), 0);
        due.is("a", x.person(0, 0, 1, 1, 1, 0, 0), 0);
        due.is("on foot is faster", x.bestStairs(), 1);
        due.is("b", x.person(0, 0, 3, 1, 1, 0, 0), 1);
        due.is("on foot all the way", x.bestStairs(), 3);
        x.speed(4);
        due.is("by speed as it is", x.bestStairs(), 1);
        due.is("told stairs stay", x.cost(1, -1), x.cost(1, 0));
    }

    private static void day() {
        CabinChain x = made(2, 5, 3, 2);
        due.is("nobody: not done", x.day(0), 0);
        due.is("nobody: turned", x.day(1), 0);
        due.is("nobody: line", x.day(2), 0);
        due.is("nobody: dearest", x.day(3), NONE);
        due.is("what 4", x.day(4), BAD);
        due.is("what -1", x.day(-1), BAD);
        due.is("what most", x.day(MOST), BAD);
        add(x, 0, 0, 0, 1, 1, 2, 0);
        add(x, 1, 0, 0, 1, 1, 1, 0);
        add(x, 2, 3, 1, 0, 1, 3, 0);
        add(x, 3, 3, 1, 0, 1, 3, 0);
        x.stop(true);
        x.shut(0, true);
        due.is("not done", x.day(0), 3);
        due.is("line", x.day(2), 2);
        due.is("dearest", x.day(3), 0);
        // Person 0 steps in at tick 4 and then goes over at 9, 24 .. 999 and under at 17, 32 .. 992.
        due.is("turned", x.day(1), 67 + 66);
        due.is("stopped as it was", x.stop(true), 1);
        due.is("shut as it was", x.shut(0, true), 1);
        due.is("no tick is gone", x.count(1), 0);
        CabinChain y = new CabinChain();
        add(y, 0, 0, 0, 1, 1, 1, 0);
        add(y, 1, 4, 0, 1, 1, 1, 0);
        add(y, 2, 8, 0, 1, 1, 1, 0);
        due.is("of several the lowest", y.day(3), 0);
        due.is("all done", y.day(0), 0);
    }

    /** One after another they take the boxes from floor 0 to floor 7, the last in the last tick or one behind it. */
    private static void dayEnds() {
        CabinChain x = made(8, 8, 1, 1);
        for (int i = 0; i < 6; i++) {
            add(x, i, 900, 0, 7, 1, 1, 0);
        }
        due.is("the last is done in tick 999", x.day(0), 0);
        due.is("and is the dearest", x.day(3), 5);
        due.is("costs", x.cost(1, -1), 59 + 67 + 75 + 83 + 91 + 99);
        CabinChain y = made(8, 11, 1, 1);
        for (int i = 0; i < 3; i++) {
            add(y, i, 900, 0, 7, 1, 1, 0);
        }
        due.is("tick 1000 is not of the day", y.day(0), 1);
        due.is("its line", y.day(2), 3);
        due.is("its costs", y.cost(1, -1), 78 + 89 + 100);
        for (int i = 0; i < 6; i++) {
            y.ticks(167);
        }
        due.is("done as it is", y.about(2, 2), 1000);
        due.is("as if 1000", y.about(2, 4), 100);
    }

    private static void dayGoesBySpeedAsItIs() {
        CabinChain x = made(4, 4, 4, 1);
        add(x, 0, 0, 0, 3, 1, 1, 0);
        due.is("keep by 1", x.keep(), 1);
        due.is("asked of 4", x.cost(4, -1), 3);
        due.is("anew", x.anew(), 0);
        due.is("speed is 1 still", x.speed(1), 1);
        due.is("by 1 on foot takes no longer than the chain", x.bestStairs(), 0);
        due.is("asked of 4 again", x.cost(4, -1), 3);
        due.is("by 1 nothing is less", x.beside(0, 0), 0);
        due.is("asked of 4 once more", x.cost(4, -1), 3);
        due.is("by 1 together", x.beside(0, 2), 0);
        x.speed(4);
        due.is("by 4 one has less", x.beside(0, 0), 1);
        due.is("by 4 together", x.beside(0, 2), 11 - 3);
        due.is("keep by 4", x.keep(), 2);
        x.speed(2);
        due.is("by 2 one has more", x.beside(1, 1), 1);
        due.is("by 2 one has less", x.beside(0, 0), 1);
    }

    private static void fearAtTheTop() {
        CabinChain x = made(3, 4, 3, 1);
        add(x, 0, 0, 0, 1, 1, 1, 1);
        add(x, 1, 0, 1, 2, 1, 1, 0);
        x.ticks(1);
        x.shut(1, true);
        x.ticks(6);
        due.is("past its floor", x.about(0, 1), 0);
        due.is("its floor is shut", x.counted(1, 1), 0);
        x.ticks(1);
        due.is("two are out at the top", x.counted(2, 1), 2);
        due.is("the one that fears goes down again by box 2", x.about(0, 1), 2);
        due.is("not over the top", x.about(0, 3), 0);
        x.shut(1, false);
        x.ticks(4);
        due.is("done on the way down", x.about(0, 2), 11);
        due.is("at 1", x.counted(1, 1), 1);
    }

    private static void thirtyInOneLine() {
        CabinChain x = made(8, 12, 1, 1);
        for (int i = 0; i < 30; i++) {
            add(x, i, 0, 0, 7, 2, 1, 0);
        }
        due.is("one box each twelve ticks", x.cost(1, -1), 30 * 95 + 12 * (29 * 30 / 2));
        due.is("all done", x.day(0), 0);
        due.is("the longest line", x.day(2), 30);
        due.is("the last pays most", x.day(3), 29);
        due.is("keep", x.keep(), 1);
        due.is("beside", x.beside(0, 2), 0);
        due.is("stairs", x.bestStairs(), 7);
        x.shut(0, true);
        x.ticks(12);
        due.is("the last in line", x.stands(0, 29), 29);
        due.is("nobody behind", x.stands(0, 30), NONE);
        x.shut(0, false);
        x.ticks(12);
        due.is("all move up", x.stands(0, 28), 29);
        due.is("one less", x.stands(0, 29), NONE);
        x.stop(true);
        for (int i = 0; i < 28; i++) {
            x.ticks(1);
        }
        due.is("two fill a box", x.count(3), 2);
        due.is("let out", x.turn(0), 2);
        due.is("the first is last now", x.stands(0, 28), 0);
        due.is("and the next", x.stands(0, 29), 1);
    }

    private static CabinChain stoppedBetween() {
        CabinChain x = new CabinChain();
        add(x, 0, 0, 0, 1, 1, 1, 0);
        x.ticks(3);
        x.stop(true);
        return x;
    }

    private static void wheel() {
        CabinChain x = stoppedBetween();
        due.is("one either way", x.wheel(), 1);
        x.shut(0, true);
        due.is("one forth", x.wheel(), 1);
        x.shut(1, true);
        due.is("none", x.wheel(), NONE);
        x.shut(0, false);
        due.is("one back", x.wheel(), 1);
        due.is("nothing moves by asking", x.count(2), 3);
        x.turn(4);
        due.is("five back", x.wheel(), 5);
        x.stop(false);
        due.is("not stopped", x.wheel(), NO);
        CabinChain y = new CabinChain();
        add(y, 0, 0, 0, 1, 1, 1, 0);
        y.ticks(1);
        y.stop(true);
        due.is("where it is", y.wheel(), 0);
        CabinChain z = new CabinChain();
        z.stop(true);
        z.shut(0, true);
        z.shut(1, true);
        due.is("nobody to let out", z.wheel(), 0);
        wheelAtItsReach();
    }

    private static void wheelAtItsReach() {
        // Up at floor 4 of 8 with only one door left open: as far as 3 S steps, and not one more.
        CabinChain x = made(8, 4, 1, 1);
        add(x, 0, 3, 4, 7, 1, 1, 0);
        x.ticks(4);
        due.is("in", x.about(0, 0), 2);
        x.stop(true);
        for (int floor = 0; floor < 8; floor++) {
            x.shut(floor, floor != 7);
        }
        due.is("twelve forth", x.wheel(), 12);
        x.turn(-1);
        due.is("thirteen is too far", x.wheel(), NONE);
        x.turn(1);
        x.shut(7, true);
        x.shut(1, false);
        due.is("twelve back", x.wheel(), 12);
        x.turn(1);
        due.is("thirteen back is too far", x.wheel(), NONE);
    }

    /** Box 0 up between 1 and 2 with door 1 shut, box 5 down below 0: stopped where they need both ways. */
    private static CabinChain stoppedApart() {
        CabinChain x = made(3, 6, 2, 1);
        add(x, 0, 0, 0, 2, 1, 1, 0);
        add(x, 1, 0, 1, 0, 1, 1, 0);
        x.ticks(1);
        x.shut(0, true);
        x.ticks(8);
        x.stop(true);
        x.shut(0, false);
        x.shut(1, true);
        return x;
    }

    private static void wheelBothWays() {
        CabinChain x = stoppedApart();
        due.is("in boxes", x.count(3), 2);
        due.is("two back, then five forth", x.wheel(), 7);
        x.shut(0, true);
        due.is("three forth, then back to floor 2", x.wheel(), 3 + 17);
        x.shut(0, false);
        x.shut(1, false);
        due.is("both back", x.wheel(), 2);
    }

    private static void turn() {
        CabinChain x = stoppedApart();
        due.is("101", x.turn(101), BAD);
        due.is("-101", x.turn(-101), BAD);
        due.is("least", x.turn(LEAST), BAD);
        due.is("most", x.turn(MOST), BAD);
        due.is("one out", x.turn(-2), 1);
        due.is("done", x.about(1, 0), 4);
        due.is("done now", x.about(1, 2), 9);
        due.is("out counts", x.counted(0, 1), 1);
        due.is("the other is in", x.about(0, 0), 2);
        due.is("wheel for the rest", x.wheel(), 5);
        due.is("the other out", x.turn(5), 1);
        due.is("done too", x.about(0, 2), 9);
        due.is("moved", x.count(2), 12);
        due.is("nobody left", x.turn(-100), 0);
        due.is("back round", x.count(2), 8);
        due.is("forth round", x.turn(100), 0);
        due.is("moved again", x.count(2), 12);
        due.is("no step", x.turn(0), 0);
        x.stop(false);
        due.is("not stopped", x.turn(1), NO);
        due.is("bad before no", x.turn(101), BAD);
        due.is("did not move", x.count(2), 12);
    }

    private static void turnAndStandAgain() {
        CabinChain x = made(3, 4, 3, 1);
        add(x, 0, 4, 0, 2, 2, 1, 0);
        add(x, 1, 0, 0, 2, 2, 1, 0);
        add(x, 2, 4, 0, 2, 2, 1, 0);
        add(x, 3, 7, 1, 2, 2, 1, 0);
        add(x, 4, 8, 1, 2, 1, 6, 0);
        x.ticks(6);
        due.is("box 0", x.box(0, 4), 2);
        due.is("box 7", x.box(7, 4), 5);
        x.ticks(3);
        due.is("3 finds no room in box 7", x.stands(1, 0), 3);
        due.is("4 stands", x.stands(1, 1), 4);
        x.stop(true);
        due.is("only the one done at 2", x.about(1, 2), 7);
        due.is("boxes at floors let out", x.turn(0), 2);
        due.is("behind all, by numbers", x.stands(1, 2), 0);
        due.is("the next", x.stands(1, 3), 2);
        due.is("first in line", x.stands(1, 0), 3);
        due.is("out at 1", x.counted(1, 1), 2);
        x.ticks(1);
        due.is("steps in again", x.about(3, 0), 2);
        x.ticks(1);
        due.is("and so does who was let out", x.about(0, 0), 2);
        due.is("in at 1", x.counted(1, 0), 2);
    }

    private static void turnTurnsNobody() {
        CabinChain x = stoppedBetween();
        x.shut(0, true);
        x.shut(1, true);
        x.turn(5);
        due.is("over by hand", x.box(0, 1), 100);
        due.is("is not turned", x.about(0, 3), 0);
        x.stop(false);
        x.ticks(1);
        due.is("was there ahead", x.about(0, 3), 0);
        x.stop(true);
        x.turn(-2);
        x.stop(false);
        x.ticks(1);
        due.is("comes over once more", x.about(0, 3), 1);
    }

    private static void counted() {
        CabinChain x = made(3, 4, 3, 1);
        add(x, 0, 0, 0, 2, 1, 1, 0);
        add(x, 1, 0, 0, 1, 1, 1, 0);
        add(x, 2, 0, 2, 1, 1, 1, 0);
        x.ticks(20);
        int[] in = {2, 0, 1};
        int[] out = {0, 2, 1};
        for (int floor = 0; floor < 3; floor++) {
            due.is("in at " + floor, x.counted(floor, 0), in[floor]);
            due.is("out at " + floor, x.counted(floor, 1), out[floor]);
        }
        due.is("the day does not count", x.day(0) + x.counted(0, 0), 2);
        due.is("floor 3", x.counted(3, 0), BAD);
        due.is("floor -1", x.counted(-1, 0), BAD);
        due.is("what 2", x.counted(0, 2), BAD);
        due.is("what -1", x.counted(0, -1), BAD);
        due.is("far off", x.counted(MOST, LEAST), BAD);
    }

    private static void tell() {
        CabinChain x = made(3, 4, 3, 1);
        due.is("tell", x.tell(2, 1, 100), -1);
        due.is("tell other", x.tell(2, 0, 0), -1);
        due.is("two told", x.count(8), 2);
        due.is("tell anew", x.tell(2, 1, 5), 100);
        due.is("gap", x.tell(2, 1, -1), 5);
        due.is("gap again", x.tell(2, 1, -1), -1);
        due.is("one told", x.count(8), 1);
        due.is("101", x.tell(0, 0, 101), -100);
        due.is("-2", x.tell(0, 0, -2), -100);
        due.is("floor 3", x.tell(3, 0, 1), -100);
        due.is("floor -1", x.tell(-1, 0, 1), -100);
        due.is("what 2", x.tell(0, 2, 1), -100);
        due.is("what -1", x.tell(0, -1, 1), -100);
        due.is("far off", x.tell(MOST, LEAST, MOST), -100);
        due.is("nothing told by that", x.count(8), 1);
        due.is("zero is told", x.tell(2, 0, -1), 0);
    }

    private static void fits() {
        CabinChain x = new CabinChain();
        due.is("all gaps: 0", x.fits(0), 1);
        due.is("all gaps: 100", x.fits(100), 1);
        due.is("-1", x.fits(-1), BAD);
        due.is("101", x.fits(101), BAD);
        due.is("least", x.fits(LEAST), BAD);
        x.tell(0, 0, 50);
        x.tell(0, 1, 20);
        x.tell(1, 1, 10);
        due.is("20 at least", x.fits(20), 1);
        due.is("not 19", x.fits(19), 0);
        due.is("100 still", x.fits(100), 1);
        x.tell(1, 0, 3);
        due.is("just 23", x.fits(23), 1);
        due.is("not 22", x.fits(22), 0);
        due.is("not 24", x.fits(24), 0);
        x.tell(1, 1, -1);
        due.is("33 at most", x.fits(33), 1);
        due.is("not 34", x.fits(34), 0);
        due.is("0 too", x.fits(0), 1);
        x.tell(1, 0, 100);
        x.tell(0, 0, 100);
        due.is("by a full gap", x.fits(80), 1);
        due.is("a gap takes no more than 100", x.fits(79), 0);
    }

    private static void wrong() {
        CabinChain x = made(3, 4, 3, 1);
        add(x, 0, 0, 0, 2, 1, 1, 0);
        x.ticks(12);
        due.is("nothing told", x.wrong(), 0);
        x.tell(0, 0, 1);
        x.tell(2, 1, 1);
        x.tell(1, 0, 0);
        due.is("all right", x.wrong(), 0);
        x.tell(2, 0, 1);
        due.is("in at 2", x.wrong(), 4);
        x.tell(0, 1, 3);
        due.is("out at 0", x.wrong(), 5);
        x.tell(1, 1, 1);
        due.is("all floors", x.wrong(), 7);
        x.tell(0, 1, -1);
        due.is("a gap is not wrong", x.wrong(), 6);
        x.anew();
        due.is("told against no counts", x.wrong(), 7);
    }

    private static void keep() {
        CabinChain x = new CabinChain();
        due.is("first", x.keep(), 1);
        due.is("second", x.keep(), 2);
        due.is("kept", x.count(7), 2);
        due.is("third", x.keep(), 3);
        due.is("full", x.keep(), FULL);
        due.is("three", x.count(7), 3);
    }

    private static void beside() {
        CabinChain x = made(3, 4, 3, 1);
        add(x, 0, 0, 0, 2, 1, 1, 0);
        add(x, 1, 0, 2, 0, 1, 2, 0);
        due.is("keep", x.keep(), 1);
        add(x, 2, 0, 0, 2, 1, 1, 0);
        due.is("keep three people", x.keep(), 2);
        due.is("alike: less", x.beside(0, 0), 0);
        due.is("alike: more", x.beside(0, 1), 0);
        due.is("alike: together", x.beside(0, 2), 0);
        int one = x.about(0, 4);
        x.speed(4);
        // At 4 steps a tick person 0 is done in tick 9 or so, and who needs two ticks never steps in.
        due.is("less", x.beside(0, 0), 1);
        due.is("more", x.beside(0, 1), 1);
        due.is("all is asked of those there were", x.beside(1, 0), 2);
        due.is("nothing changes", x.about(0, 4), one);
        int then = x.cost(1, -1);
        due.is("together less", x.beside(1, 2), then - x.cost(4, -1));
        due.is("what 3", x.beside(0, 3), -1000000);
        due.is("what -1", x.beside(0, -1), -1000000);
        due.is("day 2", x.beside(2, 0), -1000000);
        due.is("day -1", x.beside(-1, 0), -1000000);
        due.is("far off", x.beside(LEAST, MOST), -1000000);
    }

    private static void count() {
        CabinChain x = made(4, 4, 3, 1);
        due.is("walks", x.person(0, 0, 1, 1, 1, 0, 1), 0);
        due.is("rides", x.person(0, 0, 3, 1, 1, 0, 0), 1);
        due.is("stands", x.person(0, 0, 3, 1, 6, 0, 0), 2);
        due.is("done", x.person(0, 1, 2, 1, 1, 0, 0), 3);
        due.is("comes", x.person(100, 1, 2, 1, 1, 0, 0), 4);
        x.tell(0, 0, 0);
        x.keep();
        x.ticks(6);
        int[] want = {5, 6, 6, 1, 1, 1, 1, 1, 1};
        for (int what = 0; what < want.length; what++) {
            due.is("count " + what, x.count(what), want[what]);
        }
        due.is("what 9", x.count(9), BAD);
        due.is("what -1", x.count(-1), BAD);
        due.is("what least", x.count(LEAST), BAD);
    }
}
