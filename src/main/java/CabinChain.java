import java.util.Arrays;

/** A house whose chain of open cabins never stops, the people who ride it, and what their day costs them. */
public final class CabinChain {
    public static final int BAD = -1, NO = -2, FULL = -3, NONE = -4;

    private static final int BAD_TOLD = -100;
    private static final int BAD_BESIDE = -1000000;

    private static final int FEWEST_FLOORS = 2;
    private static final int MOST_FLOORS = 8;
    private static final int FEWEST_STEPS = 2;
    private static final int MOST_STEPS = 12;
    private static final int MOST_SPEED = 4;
    private static final int MOST_BOXES = 2 * MOST_FLOORS + 2;

    private static final int MOST_PEOPLE = 30;
    private static final int LAST_COMING = 900;
    private static final int MOST_WIDTH = 2;
    private static final int MOST_NEED = 6;
    private static final int MOST_STAIRS = 7;
    private static final int ROOM_IN_BOX = 4;
    private static final int TICKS_A_FLOOR_ON_FOOT = 6;
    private static final int STAIRS_AS_TOLD = -1;

    private static final int TICKS_IN_DAY = 1000;
    private static final int MOST_TICKS_A_CALL = 200;
    private static final int MOST_TICKS = 2000;
    private static final int FARTHEST_TURN = 100;
    private static final int FLOORS_BY_HAND = 3;

    private static final int OVER = 100;
    private static final int UNDER = 101;

    private static final int YET_TO_COME = 0;
    private static final int STANDS = 1;
    private static final int IN_BOX = 2;
    private static final int WALKS = 3;
    private static final int DONE = 4;

    private static final int GAP = -1;
    private static final int MOST_TOLD = 100;
    private static final int MOST_KEPT = 3;

    private final People people;
    private final Course now;
    private final Course theDay;
    private final HandWheel handWheel;
    private final ToldCounts told;
    private final KeptDays kept;
    private House house;

    public CabinChain() {
        people = new People();
        house = new House(2, 4, 3);
        now = new Course(people, house, 1);
        theDay = new Course(people, house, 1);
        handWheel = new HandWheel();
        told = new ToldCounts();
        kept = new KeptDays();
    }

    public int house(int floors, int steps, int open, int speed) {
        if (!within(floors, FEWEST_FLOORS, MOST_FLOORS) || !within(steps, FEWEST_STEPS, MOST_STEPS)) {
            return BAD;
        }
        if (!within(open, 1, steps) || !isSpeed(speed, steps)) {
            return BAD;
        }
        house = new House(floors, steps, open);
        people.number = 0;
        now.begin(house, speed, STAIRS_AS_TOLD);
        told.forget();
        kept.number = 0;
        return house.boxes;
    }

    public int person(int tick, int from, int to, int width, int need, int fear, int stairs) {
        if (!within(tick, 0, LAST_COMING) || !isFloor(from) || !isFloor(to) || from == to) {
            return BAD;
        }
        if (!within(width, 1, MOST_WIDTH) || !within(need, 1, MOST_NEED)) {
            return BAD;
        }
        if (!within(fear, 0, 1) || !within(stairs, 0, MOST_STAIRS)) {
            return BAD;
        }
        if (tick < now.ticks) {
            return NO;
        }
        if (people.number >= MOST_PEOPLE) {
            return FULL;
        }
        return people.add(tick, from, to, width, need, fear, stairs);
    }

    public int speed(int v) {
        if (!isSpeed(v, house.steps)) {
            return BAD;
        }
        int was = now.speed;
        now.speed = v;
        return was;
    }

    public int anew() {
        int were = now.ticks;
        now.begin(house, now.speed, STAIRS_AS_TOLD);
        return were;
    }

    public int ticks(int n) {
        if (!within(n, 1, MOST_TICKS_A_CALL)) {
            return BAD;
        }
        if (now.ticks + n > MOST_TICKS) {
            return FULL;
        }
        for (int i = 0; i < n; i++) {
            now.tick();
        }
        return now.ticks;
    }

    public int stop(boolean stop) {
        boolean was = now.stopped;
        now.stopped = stop;
        return was ? 1 : 0;
    }

    public int shut(int floor, boolean shut) {
        if (!isFloor(floor)) {
            return BAD;
        }
        boolean was = now.shut[floor];
        now.shut[floor] = shut;
        return was ? 1 : 0;
    }

    public int box(int b, int what) {
        if (!within(b, 0, house.boxes - 1)) {
            return BAD;
        }
        int slot = house.slot(b, now.moved);
        switch (what) {
            case 0: return house.place(b, now.moved);
            case 1: return house.floorOrEnd(slot);
            case 2: return house.isAtFloor(slot) ? (house.isUp(slot) ? 1 : 0) : NONE;
            case 3: return now.widths[b];
            case 4: return now.riders(b);
            default: return BAD;
        }
    }

    public int left() {
        return house.ticksLeft(now.moved, now.speed);
    }

    public int about(int person, int what) {
        if (!within(person, 0, people.number - 1)) {
            return BAD;
        }
        switch (what) {
            case 0: return now.where[person];
            case 1: return now.spot(person);
            case 2: return now.where[person] == DONE ? now.doneAt[person] : NONE;
            case 3: return now.turned[person];
            case 4: return now.costOf(person);
            default: return BAD;
        }
    }

    public int stands(int floor, int i) {
        if (!isFloor(floor) || i < 0) {
            return BAD;
        }
        return i < now.lineLength[floor] ? now.line[floor][i] : NONE;
    }

    public int safe(int v) {
        if (!isSpeed(v, house.steps)) {
            return BAD;
        }
        return isSafe(v) ? 1 : 0;
    }

    public int cost(int v, int k) {
        if (!isSpeed(v, house.steps) || !within(k, STAIRS_AS_TOLD, MOST_STAIRS)) {
            return BAD;
        }
        return theDay.playDay(house, v, k);
    }

    public int bestSpeed() {
        int best = NONE;
        int least = 0;
        for (int v = 1; v <= Math.min(MOST_SPEED, house.steps); v++) {
            if (isSafe(v)) {
                int all = theDay.playDay(house, v, STAIRS_AS_TOLD);
                if (best == NONE || all < least) {
                    best = v;
                    least = all;
                }
            }
        }
        return best;
    }

    public int bestStairs() {
        int best = 0;
        int least = theDay.playDay(house, now.speed, 0);
        for (int k = 1; k < house.floors; k++) {
            int all = theDay.playDay(house, now.speed, k);
            if (all < least) {
                best = k;
                least = all;
            }
        }
        return best;
    }

    public int day(int what) {
        if (!within(what, 0, 3)) {
            return BAD;
        }
        theDay.playDay(house, now.speed, STAIRS_AS_TOLD);
        switch (what) {
            case 0: return people.number - theDay.howMany(DONE);
            case 1: return theDay.turnedTogether();
            case 2: return theDay.longestLine;
            default: return theDay.dearest();
        }
    }

    public int wheel() {
        return now.stopped ? handWheel.fewestSteps(now) : NO;
    }

    public int turn(int steps) {
        if (!within(steps, -FARTHEST_TURN, FARTHEST_TURN)) {
            return BAD;
        }
        if (!now.stopped) {
            return NO;
        }
        now.moved = house.along(now.moved, steps);
        return now.letOut();
    }

    public int counted(int floor, int what) {
        if (!isFloor(floor) || !within(what, 0, 1)) {
            return BAD;
        }
        return now.counts[what][floor];
    }

    public int tell(int floor, int what, int n) {
        if (!isFloor(floor) || !within(what, 0, 1) || !within(n, GAP, MOST_TOLD)) {
            return BAD_TOLD;
        }
        int was = told.counts[what][floor];
        told.counts[what][floor] = n;
        return was;
    }

    public int fits(int n) {
        if (!within(n, 0, MOST_TOLD)) {
            return BAD;
        }
        return told.mayLeaveInside(n, house.floors) ? 1 : 0;
    }

    public int wrong() {
        int bits = 0;
        for (int floor = 0; floor < house.floors; floor++) {
            if (told.differs(now.counts, floor)) {
                bits |= 1 << floor;
            }
        }
        return bits;
    }

    public int keep() {
        if (kept.number >= MOST_KEPT) {
            return FULL;
        }
        theDay.playDay(house, now.speed, STAIRS_AS_TOLD);
        kept.add(theDay);
        return kept.number;
    }

    public int beside(int i, int what) {
        if (!within(i, 0, kept.number - 1) || !within(what, 0, 2)) {
            return BAD_BESIDE;
        }
        theDay.playDay(house, now.speed, STAIRS_AS_TOLD);
        switch (what) {
            case 0: return kept.howManyHave(-1, i, theDay);
            case 1: return kept.howManyHave(1, i, theDay);
            default: return kept.lessTogether(i, theDay);
        }
    }

    public int count(int what) {
        switch (what) {
            case 0: return people.number;
            case 1: return now.ticks;
            case 2: return now.moved;
            case 3: return now.howMany(IN_BOX);
            case 4: return now.howMany(STANDS);
            case 5: return now.howMany(WALKS);
            case 6: return now.howMany(DONE);
            case 7: return kept.number;
            case 8: return told.howManyTold(house.floors);
            default: return BAD;
        }
    }

    private static boolean within(int n, int least, int most) {
        return n >= least && n <= most;
    }

    // A box must not pass a whole floor in one tick, so the steps between floors bound the speed too.
    private static boolean isSpeed(int v, int steps) {
        return within(v, 1, Math.min(MOST_SPEED, steps));
    }

    private boolean isFloor(int floor) {
        return within(floor, 0, house.floors - 1);
    }

    private boolean isSafe(int v) {
        int most = house.ticksLeft(0, v);
        for (int p = 0; p < people.number; p++) {
            if (!people.goesOnFoot(p, STAIRS_AS_TOLD) && people.need[p] > most) {
                return false;
            }
        }
        return true;
    }

    /**
     * The measures of a house. The chain is cut into slots, each one floor's steps long: the floors upwards,
     * the one over the top, the floors downwards, the one under the bottom.
     */
    private static final class House {
        final int floors;
        final int steps;
        final int open;
        final int boxes;
        final int chainLength;

        // Only numbers that have been tested come here, so steps and chainLength may divide.
        House(int floors, int steps, int open) {
            this.floors = floors;
            this.steps = steps;
            this.open = open;
            boxes = 2 * floors + 2;
            chainLength = boxes * steps;
        }

        int along(int moved, int by) {
            return Math.floorMod(moved + by, chainLength);
        }

        int place(int b, int moved) {
            return (b * steps + moved) % chainLength;
        }

        int slot(int b, int moved) {
            return place(b, moved) / steps;
        }

        boolean isUp(int slot) {
            return slot < floors;
        }

        boolean isAtFloor(int slot) {
            return slot != floors && slot != boxes - 1;
        }

        int floorOrEnd(int slot) {
            if (isUp(slot)) {
                return slot;
            }
            if (isAtFloor(slot)) {
                return 2 * floors - slot;
            }
            return slot == floors ? OVER : UNDER;
        }

        boolean isLastBeforeEnd(int slot) {
            return slot == floors - 1 || slot == 2 * floors;
        }

        int ticksLeft(int moved, int v) {
            int stepsLeft = open - moved % steps;
            return stepsLeft > 0 && v > 0 ? (stepsLeft + v - 1) / v : 0;
        }

        boolean isOpen(int moved) {
            return moved % steps < open;
        }
    }

    /** What has been told of the people. */
    private static final class People {
        final int[] comes = new int[MOST_PEOPLE];
        final int[] from = new int[MOST_PEOPLE];
        final int[] to = new int[MOST_PEOPLE];
        final int[] width = new int[MOST_PEOPLE];
        final int[] need = new int[MOST_PEOPLE];
        final int[] fear = new int[MOST_PEOPLE];
        final int[] stairs = new int[MOST_PEOPLE];
        int number;

        int add(int tick, int from, int to, int width, int need, int fear, int stairs) {
            int p = number;
            comes[p] = tick;
            this.from[p] = from;
            this.to[p] = to;
            this.width[p] = width;
            this.need[p] = need;
            this.fear[p] = fear;
            this.stairs[p] = stairs;
            number++;
            return p;
        }

        int floorsApart(int p) {
            return Math.abs(from[p] - to[p]);
        }

        boolean goesOnFoot(int p, int stairsForAll) {
            int most = stairsForAll == STAIRS_AS_TOLD ? stairs[p] : stairsForAll;
            return floorsApart(p) <= most;
        }
    }

    /** What has come of the people and the chain since all was at first: once as it is, once as the day is tried. */
    private static final class Course {
        final People people;
        final int[] where = new int[MOST_PEOPLE];
        final int[] at = new int[MOST_PEOPLE];
        final int[] doneAt = new int[MOST_PEOPLE];
        final int[] turned = new int[MOST_PEOPLE];
        final int[][] line = new int[MOST_FLOORS][MOST_PEOPLE];
        final int[] lineLength = new int[MOST_FLOORS];
        final int[] widths = new int[MOST_BOXES];
        final int[][] counts = new int[2][MOST_FLOORS];
        final boolean[] shut = new boolean[MOST_FLOORS];
        House house;
        int speed;
        int stairsForAll;
        int ticks;
        int moved;
        int longestLine;
        boolean stopped;

        Course(People people, House house, int speed) {
            this.people = people;
            this.house = house;
            this.speed = speed;
            stairsForAll = STAIRS_AS_TOLD;
        }

        void begin(House house, int speed, int stairsForAll) {
            this.house = house;
            this.speed = speed;
            this.stairsForAll = stairsForAll;
            ticks = 0;
            moved = 0;
            longestLine = 0;
            stopped = false;
            Arrays.fill(where, YET_TO_COME);
            Arrays.fill(turned, 0);
            Arrays.fill(lineLength, 0);
            Arrays.fill(widths, 0);
            for (int floor = 0; floor < MOST_FLOORS; floor++) {
                counts[0][floor] = 0;
                counts[1][floor] = 0;
                shut[floor] = false;
            }
        }

        // Once all are done nothing more can change, so the rest of the day need not be played.
        int playDay(House house, int speed, int stairsForAll) {
            begin(house, speed, stairsForAll);
            for (int i = 0; i < TICKS_IN_DAY && !areAllDone(); i++) {
                tick();
            }
            return costTogether();
        }

        void tick() {
            if (!stopped) {
                moveOn();
            }
            comeAndArrive();
            serveBoxes();
            for (int floor = 0; floor < house.floors; floor++) {
                longestLine = Math.max(longestLine, lineLength[floor]);
            }
            ticks++;
        }

        private void moveOn() {
            int before = moved;
            moved = house.along(moved, speed);
            for (int b = 0; b < house.boxes; b++) {
                if (widths[b] > 0 && house.isAtFloor(house.slot(b, before))
                        && !house.isAtFloor(house.slot(b, moved))) {
                    countTurned(b);
                }
            }
        }

        private void countTurned(int b) {
            for (int p = 0; p < people.number; p++) {
                if (isIn(p, b)) {
                    turned[p]++;
                }
            }
        }

        private void comeAndArrive() {
            for (int p = 0; p < people.number; p++) {
                if (where[p] == YET_TO_COME && people.comes[p] == ticks) {
                    come(p);
                } else if (where[p] == WALKS && doneAt[p] == ticks) {
                    where[p] = DONE;
                }
            }
        }

        private void come(int p) {
            if (people.goesOnFoot(p, stairsForAll)) {
                where[p] = WALKS;
                doneAt[p] = ticks + TICKS_A_FLOOR_ON_FOOT * people.floorsApart(p);
            } else {
                stand(p, people.from[p]);
            }
        }

        // A person is in one line at most, so no line outgrows its row; its end is looked at all the same.
        private void stand(int p, int floor) {
            int end = lineLength[floor];
            if (end < MOST_PEOPLE) {
                where[p] = STANDS;
                at[p] = floor;
                line[floor][end] = p;
                lineLength[floor] = end + 1;
            }
        }

        private void serveBoxes() {
            int left = house.ticksLeft(moved, speed);
            if (left == 0) {
                return;
            }
            for (int b = 0; b < house.boxes; b++) {
                int floor = openDoor(b, moved);
                if (floor != NONE) {
                    stepOut(b, floor, left);
                    stepIn(b, floor, left);
                }
            }
        }

        /** The floor at whose door box b could be left, had the chain moved so far; NONE if there is no such door. */
        int openDoor(int b, int moved) {
            int slot = house.slot(b, moved);
            if (!house.isOpen(moved) || !house.isAtFloor(slot)) {
                return NONE;
            }
            int floor = house.floorOrEnd(slot);
            return shut[floor] ? NONE : floor;
        }

        private void stepOut(int b, int floor, int left) {
            boolean frightens = house.isLastBeforeEnd(house.slot(b, moved));
            for (int p = 0; p < people.number && widths[b] > 0; p++) {
                boolean wants = people.to[p] == floor || (frightens && people.fear[p] == 1);
                if (isIn(p, b) && wants && people.need[p] <= left) {
                    leave(p, b, floor);
                }
            }
        }

        // Who has just left the box for fear can't be the one that steps in: at that floor nobody goes its way.
        private void stepIn(int b, int floor, int left) {
            boolean up = house.isUp(house.slot(b, moved));
            for (int i = 0; i < lineLength[floor]; i++) {
                int p = line[floor][i];
                boolean isItsWay = up ? people.to[p] > floor : people.to[p] < floor;
                if (isItsWay && people.need[p] <= left && widths[b] + people.width[p] <= ROOM_IN_BOX) {
                    takeFromLine(floor, i);
                    enter(p, b, floor);
                    return;
                }
            }
        }

        private void takeFromLine(int floor, int i) {
            lineLength[floor]--;
            for (int j = i; j < lineLength[floor]; j++) {
                line[floor][j] = line[floor][j + 1];
            }
        }

        private void enter(int p, int b, int floor) {
            where[p] = IN_BOX;
            at[p] = b;
            widths[b] += people.width[p];
            counts[0][floor]++;
        }

        private void leave(int p, int b, int floor) {
            widths[b] -= people.width[p];
            counts[1][floor]++;
            if (people.to[p] == floor) {
                where[p] = DONE;
                doneAt[p] = ticks;
            } else {
                stand(p, floor);
            }
        }

        /** Lets all out whose boxes are at open doors, whatever they need: how many. */
        int letOut() {
            int out = 0;
            for (int b = 0; b < house.boxes; b++) {
                int floor = openDoor(b, moved);
                for (int p = 0; p < people.number && floor != NONE; p++) {
                    if (isIn(p, b)) {
                        leave(p, b, floor);
                        out++;
                    }
                }
            }
            return out;
        }

        private boolean isIn(int p, int b) {
            return where[p] == IN_BOX && at[p] == b;
        }

        int riders(int b) {
            int bits = 0;
            for (int p = 0; p < people.number; p++) {
                if (isIn(p, b)) {
                    bits |= 1 << p;
                }
            }
            return bits;
        }

        int spot(int p) {
            if (where[p] == DONE) {
                return people.to[p];
            }
            return where[p] == STANDS || where[p] == IN_BOX ? at[p] : NONE;
        }

        int costOf(int p) {
            boolean inTime = where[p] == DONE && doneAt[p] < TICKS_IN_DAY;
            return (inTime ? doneAt[p] : TICKS_IN_DAY) - people.comes[p];
        }

        private int costTogether() {
            int all = 0;
            for (int p = 0; p < people.number; p++) {
                all += costOf(p);
            }
            return all;
        }

        int turnedTogether() {
            int all = 0;
            for (int p = 0; p < people.number; p++) {
                all += turned[p];
            }
            return all;
        }

        int dearest() {
            int dearest = NONE;
            for (int p = 0; p < people.number; p++) {
                if (dearest == NONE || costOf(p) > costOf(dearest)) {
                    dearest = p;
                }
            }
            return dearest;
        }

        int howMany(int state) {
            int all = 0;
            for (int p = 0; p < people.number; p++) {
                if (where[p] == state) {
                    all++;
                }
            }
            return all;
        }

        private boolean areAllDone() {
            for (int p = 0; p < people.number; p++) {
                if (where[p] != DONE) {
                    return false;
                }
            }
            return true;
        }
    }

    /** Looks for the fewest steps that the stopped chain must be turned so that every box comes to an open door. */
    private static final class HandWheel {
        final int[] forth = new int[MOST_BOXES];
        final int[] back = new int[MOST_BOXES];

        // The way that is gone first is gone twice, there and back, so the shorter one is gone first.
        int fewestSteps(Course course) {
            int reach = FLOORS_BY_HAND * course.house.steps;
            measure(course, reach);
            int fewest = NONE;
            for (int forthBy = 0; forthBy <= reach; forthBy++) {
                int backBy = backBeside(course, forthBy);
                int steps = forthBy + backBy + Math.min(forthBy, backBy);
                if (backBy <= reach && (fewest == NONE || steps < fewest)) {
                    fewest = steps;
                }
            }
            return fewest;
        }

        private void measure(Course course, int reach) {
            for (int b = 0; b < course.house.boxes; b++) {
                forth[b] = stepsToDoor(course, b, 1, reach);
                back[b] = stepsToDoor(course, b, -1, reach);
            }
        }

        /** How many steps this way box b is from an open door; one more than the reach if from none within it. */
        private static int stepsToDoor(Course course, int b, int way, int reach) {
            for (int n = 0; n <= reach; n++) {
                if (course.openDoor(b, course.house.along(course.moved, way * n)) != NONE) {
                    return n;
                }
            }
            return reach + 1;
        }

        /** How far back the chain must go, too, for the boxes that are not let out by so many steps forth. */
        private int backBeside(Course course, int forthBy) {
            int farthest = 0;
            for (int b = 0; b < course.house.boxes; b++) {
                if (course.widths[b] > 0 && forth[b] > forthBy) {
                    farthest = Math.max(farthest, back[b]);
                }
            }
            return farthest;
        }
    }

    /** The counts that have been told, in and out of each floor, or gaps. */
    private static final class ToldCounts {
        final int[][] counts = new int[2][MOST_FLOORS];

        ToldCounts() {
            forget();
        }

        void forget() {
            Arrays.fill(counts[0], GAP);
            Arrays.fill(counts[1], GAP);
        }

        // Gaps fill to every number between their least and their most, so the two ends tell it all.
        boolean mayLeaveInside(int n, int floors) {
            int least = together(0, 0, floors) - together(1, MOST_TOLD, floors);
            int most = together(0, MOST_TOLD, floors) - together(1, 0, floors);
            return within(n, least, most);
        }

        private int together(int what, int forGap, int floors) {
            int all = 0;
            for (int floor = 0; floor < floors; floor++) {
                int n = counts[what][floor];
                all += n == GAP ? forGap : n;
            }
            return all;
        }

        boolean differs(int[][] counted, int floor) {
            for (int what = 0; what < 2; what++) {
                int n = counts[what][floor];
                if (n != GAP && n != counted[what][floor]) {
                    return true;
                }
            }
            return false;
        }

        int howManyTold(int floors) {
            int all = 0;
            for (int floor = 0; floor < floors; floor++) {
                all += counts[0][floor] == GAP ? 0 : 1;
                all += counts[1][floor] == GAP ? 0 : 1;
            }
            return all;
        }
    }

    /** What days that were kept had cost each of the people there were then. */
    private static final class KeptDays {
        final int[][] costs = new int[MOST_KEPT][MOST_PEOPLE];
        final int[] people = new int[MOST_KEPT];
        int number;

        void add(Course course) {
            people[number] = course.people.number;
            for (int p = 0; p < people[number]; p++) {
                costs[number][p] = course.costOf(p);
            }
            number++;
        }

        /** How many have less cost in this course than on the kept day (way = -1), or more (1). */
        int howManyHave(int way, int i, Course course) {
            int all = 0;
            for (int p = 0; p < people[i]; p++) {
                if (Integer.signum(course.costOf(p) - costs[i][p]) == way) {
                    all++;
                }
            }
            return all;
        }

        int lessTogether(int i, Course course) {
            int all = 0;
            for (int p = 0; p < people[i]; p++) {
                all += costs[i][p] - course.costOf(p);
            }
            return all;
        }
    }
}
