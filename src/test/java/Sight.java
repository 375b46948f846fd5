import java.util.ArrayList;
import java.util.List;

/**
 * All that can be asked of an object, one answer a row. Some of it can only be asked by changing it, so the object is
 * used up by being looked at.
 */
final class Sight {
    private static final int TICKS_AHEAD = 40;
    // Beyond what any house holds, so that a class that refuses nothing is looked at to an end, too.
    private static final int FAR = 40;

    private final CabinChain x;
    private final List<String> rows = new ArrayList<>();

    private Sight(CabinChain x) {
        this.x = x;
    }

    static List<String> of(CabinChain x) {
        Sight sight = new Sight(x);
        int people = x.count(0);
        sight.chain();
        sight.people(people);
        int floors = sight.floors();
        sight.days();
        sight.playOn(people);
        sight.whatIsToldByChanging(floors);
        return sight.rows;
    }

    private void row(String call, int answer) {
        rows.add(call + " answers " + answer);
    }

    private void chain() {
        for (int what = 0; what <= 8; what++) {
            row("count(" + what + ")", x.count(what));
        }
        row("left()", x.left());
        row("wheel()", x.wheel());
        row("wrong()", x.wrong());
        for (int b = 0; b < FAR && x.box(b, 0) >= 0; b++) {
            for (int what = 0; what <= 4; what++) {
                row("box(" + b + ", " + what + ")", x.box(b, what));
            }
        }
    }

    private void people(int people) {
        for (int p = 0; p < people; p++) {
            for (int what = 0; what <= 4; what++) {
                row("about(" + p + ", " + what + ")", x.about(p, what));
            }
        }
    }

    private int floors() {
        int floor = 0;
        while (floor < FAR && x.counted(floor, 0) >= 0) {
            row("counted(" + floor + ", 0)", x.counted(floor, 0));
            row("counted(" + floor + ", 1)", x.counted(floor, 1));
            int i = 0;
            int p = x.stands(floor, i);
            while (p >= 0 && i < FAR) {
                row("stands(" + floor + ", " + i + ")", p);
                i++;
                p = x.stands(floor, i);
            }
            floor++;
        }
        return floor;
    }

    private void days() {
        row("bestSpeed()", x.bestSpeed());
        row("bestStairs()", x.bestStairs());
        row("cost(1, 0)", x.cost(1, 0));
        row("cost(2, 1)", x.cost(2, 1));
        for (int what = 0; what <= 3; what++) {
            row("day(" + what + ")", x.day(what));
        }
        for (int i = 0; i < x.count(7); i++) {
            for (int what = 0; what <= 2; what++) {
                row("beside(" + i + ", " + what + ")", x.beside(i, what));
            }
        }
    }

    private void playOn(int people) {
        row("ticks ahead", x.ticks(TICKS_AHEAD));
        row("count(2) then", x.count(2));
        for (int p = 0; p < people; p++) {
            row("about(" + p + ", 1) then", x.about(p, 1));
        }
    }

    private void whatIsToldByChanging(int floors) {
        row("stop was", x.stop(false));
        row("speed was", x.speed(1));
        for (int floor = 0; floor < floors; floor++) {
            row("shut(" + floor + ") was", x.shut(floor, false));
            row("tell(" + floor + ", 0) was", x.tell(floor, 0, -1));
            row("tell(" + floor + ", 1) was", x.tell(floor, 1, -1));
        }
    }
}
