import java.util.ArrayList;
import java.util.List;

/**
 * The document once more, as plainly as it can be put and with no thought of speed or room: every place is
 * reckoned from the document's formula, every day is played to its last tick, every way of the wheel is tried.
 */
final class PlainModel {
    private static final int BAD = -1, NO = -2, FULL = -3, NONE = -4;

    private static final class Person {
        int comes, from, to, width, need, fear, stairs;
        String state = "yet";
        int doneAt = -1;
        int turned;
        int box = -1;
        int floor = -1;
    }

    private static final class World {
        int f, s, w, v;
        long moved;
        int ticks;
        boolean stopped;
        boolean[] shut = new boolean[8];
        int[] in = new int[8];
        int[] out = new int[8];
        int longest;
        List<Person> people = new ArrayList<>();
        List<List<Person>> lines = new ArrayList<>();

        World(int f, int s, int w, int v) {
            this.f = f;
            this.s = s;
            this.w = w;
            this.v = v;
            for (int i = 0; i < 8; i++) {
                lines.add(new ArrayList<>());
            }
        }

        int boxes() {
            return 2 * f + 2;
        }

        int length() {
            return boxes() * s;
        }

        int place(int b, long moved) {
            return (int) (((b * (long) s + moved) % length() + length()) % length());
        }

        String where(int b, long moved) {
            int part = place(b, moved) / s;
            if (part < f) {
                return "up " + part;
            }
            if (part == f) {
                return "over";
            }
            if (part < 2 * f + 1) {
                return "down " + (f - 1 - (part - f - 1));
            }
            return "under";
        }

        boolean open(int b, long moved) {
            return place(b, moved) % s < w;
        }

        int left() {
            int phase = place(0, moved) % s;
            if (phase >= w) {
                return 0;
            }
            int ticks = 0;
            for (int steps = w - phase; steps > 0; steps -= v) {
                ticks++;
            }
            return ticks;
        }

        int doorOf(int b, long moved) {
            String at = where(b, moved);
            if (!open(b, moved) || at.equals("over") || at.equals("under")) {
                return -1;
            }
            int floor = Integer.parseInt(at.split(" ")[1]);
            return shut[floor] ? -1 : floor;
        }

        void tick() {
            if (!stopped) {
                long before = moved;
                moved += v;
                for (Person p : people) {
                    if (p.state.equals("box")) {
                        String was = where(p.box, before);
                        String is = where(p.box, moved);
                        if ((is.equals("over") || is.equals("under")) && !is.equals(was)) {
                            p.turned++;
                        }
                    }
                }
            }
            for (Person p : people) {
                if (p.state.equals("yet") && p.comes == ticks) {
                    int apart = Math.max(p.from - p.to, p.to - p.from);
                    if (apart <= p.stairs) {
                        p.state = "walks";
                        p.doneAt = ticks + 6 * apart;
                    } else {
                        stand(p, p.from);
                    }
                }
            }
            for (int b = 0; b < boxes(); b++) {
                int floor = doorOf(b, moved);
                if (floor >= 0) {
                    serve(b, floor);
                }
            }
            for (Person p : people) {
                if (p.state.equals("walks") && p.doneAt <= ticks) {
                    p.state = "done";
                }
            }
            for (List<Person> line : lines) {
                longest = Math.max(longest, line.size());
            }
            ticks++;
        }

        void stand(Person p, int floor) {
            p.state = "stands";
            p.floor = floor;
            lines.get(floor).add(p);
        }

        void getOut(Person p, int floor) {
            out[floor]++;
            if (p.to == floor) {
                p.state = "done";
                p.doneAt = ticks;
            } else {
                stand(p, floor);
            }
        }

        void serve(int b, int floor) {
            String at = where(b, moved);
            boolean end = at.equals("up " + (f - 1)) || at.equals("down 0");
            List<Person> steppedOut = new ArrayList<>();
            for (Person p : people) {
                if (p.state.equals("box") && p.box == b && p.need <= left()
                        && (p.to == floor || (p.fear == 1 && end))) {
                    getOut(p, floor);
                    steppedOut.add(p);
                }
            }
            for (Person p : lines.get(floor)) {
                boolean way = at.startsWith("up") ? p.to > floor : p.to < floor;
                if (way && p.need <= left() && widths(b) + p.width <= 4 && !steppedOut.contains(p)) {
                    lines.get(floor).remove(p);
                    p.state = "box";
                    p.box = b;
                    in[floor]++;
                    return;
                }
            }
        }

        int widths(int b) {
            int all = 0;
            for (Person p : people) {
                if (p.state.equals("box") && p.box == b) {
                    all += p.width;
                }
            }
            return all;
        }

        int cost(Person p) {
            int done = p.state.equals("done") && p.doneAt < 1000 ? p.doneAt : 1000;
            return done - p.comes;
        }

        int costs() {
            int all = 0;
            for (Person p : people) {
                all += cost(p);
            }
            return all;
        }

        int inState(String state) {
            int all = 0;
            for (Person p : people) {
                if (p.state.equals(state)) {
                    all++;
                }
            }
            return all;
        }

        World anew(int v, int k) {
            World x = new World(f, s, w, v);
            for (Person p : people) {
                Person q = new Person();
                q.comes = p.comes;
                q.from = p.from;
                q.to = p.to;
                q.width = p.width;
                q.need = p.need;
                q.fear = p.fear;
                q.stairs = k < 0 ? p.stairs : k;
                x.people.add(q);
            }
            return x;
        }

        World day(int v, int k) {
            World x = anew(v, k);
            for (int i = 0; i < 1000; i++) {
                x.tick();
            }
            return x;
        }
    }

    private World x = new World(2, 4, 3, 1);
    private int[][] told = gaps();
    private final List<List<Integer>> kept = new ArrayList<>();

    private static int[][] gaps() {
        int[][] gaps = new int[8][2];
        for (int[] row : gaps) {
            row[0] = -1;
            row[1] = -1;
        }
        return gaps;
    }

    private static boolean out(int n, int least, int most) {
        return n < least || n > most;
    }

    int house(int floors, int steps, int open, int speed) {
        if (out(floors, 2, 8) || out(steps, 2, 12) || out(open, 1, steps) || out(speed, 1, 4) || speed > steps) {
            return BAD;
        }
        x = new World(floors, steps, open, speed);
        told = gaps();
        kept.clear();
        return x.boxes();
    }

    int person(int tick, int from, int to, int width, int need, int fear, int stairs) {
        if (out(tick, 0, 900) || out(from, 0, x.f - 1) || out(to, 0, x.f - 1) || from == to || out(width, 1, 2)
                || out(need, 1, 6) || out(fear, 0, 1) || out(stairs, 0, 7)) {
            return BAD;
        }
        if (tick < x.ticks) {
            return NO;
        }
        if (x.people.size() == 30) {
            return FULL;
        }
        Person p = new Person();
        p.comes = tick;
        p.from = from;
        p.to = to;
        p.width = width;
        p.need = need;
        p.fear = fear;
        p.stairs = stairs;
        x.people.add(p);
        return x.people.size() - 1;
    }

    private boolean noSpeed(int v) {
        return out(v, 1, 4) || v > x.s;
    }

    int speed(int v) {
        if (noSpeed(v)) {
            return BAD;
        }
        int was = x.v;
        x.v = v;
        return was;
    }

    int anew() {
        int were = x.ticks;
        x = x.anew(x.v, -1);
        return were;
    }

    int ticks(int n) {
        if (out(n, 1, 200)) {
            return BAD;
        }
        if (x.ticks + n > 2000) {
            return FULL;
        }
        for (int i = 0; i < n; i++) {
            x.tick();
        }
        return x.ticks;
    }

    int stop(boolean stop) {
        int was = x.stopped ? 1 : 0;
        x.stopped = stop;
        return was;
    }

    int shut(int floor, boolean shut) {
        if (out(floor, 0, x.f - 1)) {
            return BAD;
        }
        int was = x.shut[floor] ? 1 : 0;
        x.shut[floor] = shut;
        return was;
    }

    int box(int b, int what) {
        if (out(b, 0, x.boxes() - 1) || out(what, 0, 4)) {
            return BAD;
        }
        String at = x.where(b, x.moved);
        if (what == 0) {
            return x.place(b, x.moved);
        }
        if (what == 1) {
            return at.equals("over") ? 100 : at.equals("under") ? 101 : Integer.parseInt(at.split(" ")[1]);
        }
        if (what == 2) {
            return at.startsWith("up") ? 1 : at.startsWith("down") ? 0 : NONE;
        }
        if (what == 3) {
            return x.widths(b);
        }
        int bits = 0;
        for (int p = 0; p < x.people.size(); p++) {
            if (x.people.get(p).state.equals("box") && x.people.get(p).box == b) {
                bits += 1 << p;
            }
        }
        return bits;
    }

    int left() {
        return x.left();
    }

    int about(int person, int what) {
        if (out(person, 0, x.people.size() - 1) || out(what, 0, 4)) {
            return BAD;
        }
        Person p = x.people.get(person);
        if (what == 0) {
            return List.of("yet", "stands", "box", "walks", "done").indexOf(p.state);
        }
        if (what == 1) {
            return p.state.equals("stands") ? p.floor : p.state.equals("box") ? p.box
                    : p.state.equals("done") ? p.to : NONE;
        }
        if (what == 2) {
            return p.state.equals("done") ? p.doneAt : NONE;
        }
        return what == 3 ? p.turned : x.cost(p);
    }

    int stands(int floor, int i) {
        if (out(floor, 0, x.f - 1) || i < 0) {
            return BAD;
        }
        List<Person> line = x.lines.get(floor);
        return i < line.size() ? x.people.indexOf(line.get(i)) : NONE;
    }

    int safe(int v) {
        if (noSpeed(v)) {
            return BAD;
        }
        for (Person p : x.people) {
            boolean walks = Math.max(p.from - p.to, p.to - p.from) <= p.stairs;
            if (!walks && p.need * v >= x.w + v) {
                return 0;
            }
        }
        return 1;
    }

    int cost(int v, int k) {
        return noSpeed(v) || out(k, -1, 7) ? BAD : x.day(v, k).costs();
    }

    int bestSpeed() {
        int best = NONE;
        for (int v = 4; v >= 1; v--) {
            if (safe(v) == 1 && (best == NONE || cost(v, -1) <= cost(best, -1))) {
                best = v;
            }
        }
        return best;
    }

    int bestStairs() {
        int best = x.f - 1;
        for (int k = x.f - 2; k >= 0; k--) {
            if (cost(x.v, k) <= cost(x.v, best)) {
                best = k;
            }
        }
        return best;
    }

    int day(int what) {
        if (out(what, 0, 3)) {
            return BAD;
        }
        World day = x.day(x.v, -1);
        if (what == 0) {
            return day.people.size() - day.inState("done");
        }
        if (what == 1) {
            return day.people.stream().mapToInt(p -> p.turned).sum();
        }
        if (what == 2) {
            return day.longest;
        }
        int dearest = NONE;
        for (int p = day.people.size() - 1; p >= 0; p--) {
            if (dearest == NONE || day.cost(day.people.get(p)) >= day.cost(day.people.get(dearest))) {
                dearest = p;
            }
        }
        return dearest;
    }

    int wheel() {
        if (!x.stopped) {
            return NO;
        }
        int fewest = NONE;
        for (int first = 0; first <= 3 * x.s; first++) {
            for (int then = 0; then <= 3 * x.s; then++) {
                for (int way = -1; way <= 1; way += 2) {
                    int steps = then == 0 ? first : 2 * first + then;
                    if ((fewest == NONE || steps < fewest) && allAreLetOut(first, then, way)) {
                        fewest = steps;
                    }
                }
            }
        }
        return fewest;
    }

    private boolean allAreLetOut(int first, int then, int way) {
        for (int b = 0; b < x.boxes(); b++) {
            boolean isLetOut = x.widths(b) == 0;
            for (int n = -then; n <= first; n++) {
                isLetOut |= x.doorOf(b, x.moved + way * n) >= 0;
            }
            if (!isLetOut) {
                return false;
            }
        }
        return true;
    }

    int turn(int steps) {
        if (out(steps, -100, 100)) {
            return BAD;
        }
        if (!x.stopped) {
            return NO;
        }
        x.moved += steps;
        int out = 0;
        for (int b = 0; b < x.boxes(); b++) {
            for (Person p : x.people) {
                int floor = x.doorOf(b, x.moved);
                if (floor >= 0 && p.state.equals("box") && p.box == b) {
                    x.getOut(p, floor);
                    out++;
                }
            }
        }
        return out;
    }

    int counted(int floor, int what) {
        return out(floor, 0, x.f - 1) || out(what, 0, 1) ? BAD : what == 0 ? x.in[floor] : x.out[floor];
    }

    int tell(int floor, int what, int n) {
        if (out(floor, 0, x.f - 1) || out(what, 0, 1) || out(n, -1, 100)) {
            return -100;
        }
        int was = told[floor][what];
        told[floor][what] = n;
        return was;
    }

    int fits(int n) {
        if (out(n, 0, 100)) {
            return BAD;
        }
        // Which differences of in and out can be had, floor by floor, gap by gap.
        boolean[] can = new boolean[2001];
        can[1000] = true;
        for (int floor = 0; floor < x.f; floor++) {
            for (int what = 0; what < 2; what++) {
                boolean[] next = new boolean[2001];
                int least = Math.max(told[floor][what], 0);
                int most = told[floor][what] < 0 ? 100 : told[floor][what];
                for (int had = 0; had <= 2000; had++) {
                    for (int by = least; by <= most && can[had]; by++) {
                        int gets = what == 0 ? had + by : had - by;
                        if (gets >= 0 && gets <= 2000) {
                            next[gets] = true;
                        }
                    }
                }
                can = next;
            }
        }
        return can[1000 + n] ? 1 : 0;
    }

    int wrong() {
        int bits = 0;
        for (int floor = 0; floor < x.f; floor++) {
            boolean in = told[floor][0] >= 0 && told[floor][0] != x.in[floor];
            boolean out = told[floor][1] >= 0 && told[floor][1] != x.out[floor];
            bits += in || out ? 1 << floor : 0;
        }
        return bits;
    }

    int keep() {
        if (kept.size() == 3) {
            return FULL;
        }
        World day = x.day(x.v, -1);
        kept.add(day.people.stream().map(day::cost).toList());
        return kept.size();
    }

    int beside(int i, int what) {
        if (out(i, 0, kept.size() - 1) || out(what, 0, 2)) {
            return -1000000;
        }
        World day = x.day(x.v, -1);
        int[] answers = new int[3];
        for (int p = 0; p < kept.get(i).size(); p++) {
            int less = kept.get(i).get(p) - day.cost(day.people.get(p));
            answers[0] += less > 0 ? 1 : 0;
            answers[1] += less < 0 ? 1 : 0;
            answers[2] += less;
        }
        return answers[what];
    }

    int count(int what) {
        switch (what) {
            case 0: return x.people.size();
            case 1: return x.ticks;
            case 2: return x.place(0, x.moved);
            case 3: return x.inState("box");
            case 4: return x.inState("stands");
            case 5: return x.inState("walks");
            case 6: return x.inState("done");
            case 7: return kept.size();
            case 8: return (int) java.util.Arrays.stream(told).flatMapToInt(java.util.Arrays::stream)
                    .filter(n -> n >= 0).count();
            default: return BAD;
        }
    }
}
