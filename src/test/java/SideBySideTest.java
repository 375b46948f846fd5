import java.util.Random;

/** The class against the plain model: runs of calls drawn from fixed seeds, every answer compared. */
public final class SideBySideTest {
    private static final int RUNS = 1500;
    // An object is used for 512 calls at most, and to ask for all that it holds takes some 300 of them.
    private static final int CALLS = 200;
    private static final int MOST_CALLS = 512;

    private static final Due due = new Due();

    private final Random random;
    private final CabinChain x = new CabinChain();
    private final PlainModel y = new PlainModel();
    private final String name;
    private int floors = 2;
    private int calls;

    private SideBySideTest(int seed) {
        random = new Random(seed);
        name = "seed " + seed;
    }

    public static void main(String[] args) {
        for (int seed = 1; seed <= RUNS; seed++) {
            new SideBySideTest(seed).play();
        }
        due.end();
    }

    private void play() {
        if (random.nextInt(10) != 0) {
            build();
        }
        int people = random.nextInt(31);
        int spread = 1 + random.nextInt(random.nextBoolean() ? 20 : 400);
        for (int i = 0; i < people; i++) {
            addPerson(spread);
        }
        for (int i = people; i < CALLS; i++) {
            call();
        }
        askAll();
        due.isTrue(name + ": no more calls than an object is used for", calls <= MOST_CALLS);
    }

    /** A number within the bounds, now and then one just beyond them, and once in a while one that is far off. */
    private int around(int least, int most) {
        int draw = random.nextInt(60);
        if (draw == 0) {
            return least - 1;
        }
        if (draw == 1) {
            return most + 1;
        }
        if (draw == 2 && random.nextInt(4) == 0) {
            return random.nextBoolean() ? Integer.MIN_VALUE : Integer.MAX_VALUE;
        }
        return least + random.nextInt(Math.max(1, most - least + 1));
    }

    /** One call on the class, with what the model answers to it. */
    private void is(String call, int got, int want) {
        calls++;
        due.is(name + ": " + call, got, want);
    }

    private void build() {
        int f = around(2, 8);
        int s = around(2, 12);
        int w = around(1, Math.max(1, s));
        int v = around(1, Math.min(4, Math.max(1, s)));
        int got = x.house(f, s, w, v);
        is("house", got, y.house(f, s, w, v));
        if (got > 0) {
            floors = f;
        }
    }

    private void addPerson(int spread) {
        int tick = around(Math.min(900, y.count(1)), Math.min(900, y.count(1) + spread));
        int from = around(0, floors - 1);
        int to = around(0, floors - 1);
        int width = around(1, 2);
        int need = random.nextInt(3) == 0 ? around(1, 6) : around(1, 2);
        int fear = around(0, 1);
        int stairs = random.nextInt(3) == 0 ? around(0, 7) : 0;
        is("person", x.person(tick, from, to, width, need, fear, stairs),
                y.person(tick, from, to, width, need, fear, stairs));
    }

    private void call() {
        int draw = random.nextInt(100);
        if (draw < 30) {
            change();
        } else if (draw < 31) {
            askOfDays();
        } else {
            ask();
        }
    }

    private void change() {
        int draw = random.nextInt(100);
        if (draw < 40) {
            int n = random.nextInt(8) == 0 ? around(1, 200) : around(1, 12);
            is("ticks", x.ticks(n), y.ticks(n));
        } else if (draw < 50) {
            boolean stop = random.nextInt(3) != 0;
            is("stop", x.stop(stop), y.stop(stop));
        } else if (draw < 65) {
            int floor = around(0, floors - 1);
            boolean shut = random.nextBoolean();
            is("shut", x.shut(floor, shut), y.shut(floor, shut));
        } else if (draw < 80) {
            int steps = random.nextInt(4) == 0 ? around(-100, 100) : around(-8, 8);
            is("turn", x.turn(steps), y.turn(steps));
        } else if (draw < 86) {
            addPerson(50);
        } else if (draw < 90) {
            int v = around(1, 4);
            is("speed", x.speed(v), y.speed(v));
        } else if (draw < 98) {
            int floor = around(0, floors - 1);
            int what = around(0, 1);
            int n = random.nextInt(2) == 0 ? around(-1, 3) : around(-1, 100);
            is("tell", x.tell(floor, what, n), y.tell(floor, what, n));
        } else if (draw < 99) {
            is("anew", x.anew(), y.anew());
        } else if (random.nextInt(4) == 0) {
            build();
        }
    }

    private void ask() {
        int a = around(0, 29);
        int b = around(0, 8);
        int floor = around(0, floors - 1);
        switch (random.nextInt(9)) {
            case 0: is("box", x.box(a % 20, b % 6), y.box(a % 20, b % 6)); break;
            case 1: is("left", x.left(), y.left()); break;
            case 2: is("about", x.about(a, b % 6), y.about(a, b % 6)); break;
            case 3: is("stands", x.stands(floor, a - 1), y.stands(floor, a - 1)); break;
            case 4: is("safe", x.safe(b), y.safe(b)); break;
            case 5: is("wheel", x.wheel(), y.wheel()); break;
            case 6: is("counted", x.counted(floor, b % 3), y.counted(floor, b % 3)); break;
            case 7: is("fits", x.fits(4 * a), y.fits(4 * a)); break;
            default: is("wrong", x.wrong(), y.wrong()); break;
        }
    }

    private void askOfDays() {
        int v = around(1, 4);
        int k = around(-1, 7);
        int what = around(0, 3);
        switch (random.nextInt(6)) {
            case 0: is("cost", x.cost(v, k), y.cost(v, k)); break;
            case 1: is("bestSpeed", x.bestSpeed(), y.bestSpeed()); break;
            case 2: is("bestStairs", x.bestStairs(), y.bestStairs()); break;
            case 3: is("day", x.day(what), y.day(what)); break;
            case 4: is("keep", x.keep(), y.keep()); break;
            default: is("beside", x.beside(v - 1, what), y.beside(v - 1, what)); break;
        }
    }

    /** Everything that can be asked of the state, so that no change hides. */
    private void askAll() {
        for (int what = 0; what <= 9; what++) {
            is("count " + what, x.count(what), y.count(what));
        }
        for (int what = 0; what <= 4; what++) {
            for (int b = 0; b < 2 * floors + 2; b++) {
                is("box", x.box(b, what), y.box(b, what));
            }
            for (int p = 0; p < y.count(0); p++) {
                is("about", x.about(p, what), y.about(p, what));
            }
        }
        for (int floor = 0; floor < floors; floor++) {
            is("in", x.counted(floor, 0), y.counted(floor, 0));
            is("out", x.counted(floor, 1), y.counted(floor, 1));
            for (int i = 0; i == 0 || y.stands(floor, i - 1) >= 0; i++) {
                is("stands", x.stands(floor, i), y.stands(floor, i));
            }
        }
    }
}
