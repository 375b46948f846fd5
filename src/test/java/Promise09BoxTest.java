/** Promise 9: box. */
public final class Promise09BoxTest extends TestBase {
    public static void main(String[] args) throws ReflectiveOperationException {
        due.runTests(Promise09BoxTest.class, "promise9_");
    }

    static void promise9_boxesFrom0ToTheLast() {
        for (int f = 2; f <= 8; f++) {
            CabinChain x = made(f, 3, 1, 1);
            due.is("box 0", x.box(0, 0), 0);
            due.is("the last", x.box(2 * f + 1, 0), 3 * (2 * f + 1));
            for (int what = 0; what <= 4; what++) {
                due.is("one behind it", x.box(2 * f + 2, what), BAD);
                due.is("-1", x.box(-1, what), BAD);
            }
        }
        refused("box -1", (x, s) -> x.box(-1, 0), BAD);
        refused("box behind the last", (x, s) -> x.box(2 * s.floors() + 2, 0), BAD);
        refused("least", (x, s) -> x.box(LEAST, 0), BAD);
        refused("most", (x, s) -> x.box(MOST, 0), BAD);
    }

    static void promise9_whatFrom0To4() {
        for (int what : new int[] {-1, 5, LEAST, MOST}) {
            refused("what " + what, (x, s) -> x.box(0, what), BAD);
            refused("both wrong", (x, s) -> x.box(-1, what), BAD);
        }
        for (int what = 0; what <= 4; what++) {
            int asked = what;
            asksOnly("what " + what, (x, s) -> x.box(2 * s.floors() + 1, asked));
        }
    }

    static void promise9_placeIsBelowTheChainsLength() {
        CabinChain x = new CabinChain();
        int most = 0;
        for (int i = 0; i < 24; i++) {
            most = Math.max(most, x.box(5, 0));
            due.isTrue("not below 0", x.box(5, 0) >= 0);
            x.ticks(1);
        }
        due.is("the last place", most, 23);
        due.is("where it was", x.box(5, 0), 20);
    }

    static void promise9_floorAndWayOfEachPart() {
        CabinChain x = made(3, 6, 2, 1);
        int[] floors = {0, 1, 2, 100, 2, 1, 0, 101};
        int[] ways = {1, 1, 1, NONE, 0, 0, 0, NONE};
        for (int b = 0; b < 8; b++) {
            due.is("floor of box " + b, x.box(b, 1), floors[b]);
            due.is("way of box " + b, x.box(b, 2), ways[b]);
        }
        x.ticks(5);
        for (int b = 0; b < 8; b++) {
            due.is("between floors it is at the one it left", x.box(b, 1), floors[b]);
            due.is("its way then", x.box(b, 2), ways[b]);
        }
    }

    static void promise9_widthsFrom0To4() {
        CabinChain x = made(3, 6, 6, 1);
        add(x, 0, 0, 0, 1, 2, 1, 0);
        child(x, 1, 1, 0, 2);
        child(x, 2, 2, 0, 2);
        int[] widths = {2, 3, 4, 4, 4, 2};
        int[] bits = {1, 3, 7, 7, 7, 6};
        due.is("empty", x.box(0, 3), 0);
        due.is("nobody", x.box(0, 4), 0);
        for (int i = 0; i < widths.length; i++) {
            x.ticks(1);
            due.is("widths after tick " + i, x.box(0, 3), widths[i]);
            due.is("people after tick " + i, x.box(0, 4), bits[i]);
        }
        x.ticks(6);
        due.is("empty again", x.box(0, 3), 0);
        due.is("nobody again", x.box(0, 4), 0);
    }

    static void promise9_bitsOfTheFirstAndOfTheLast() {
        CabinChain x = new CabinChain();
        child(x, 0, 0, 0, 1);
        for (int i = 1; i < 29; i++) {
            child(x, i, 900, 0, 1);
        }
        child(x, 29, 1, 0, 1);
        x.ticks(2);
        due.is("0 and 29", x.box(0, 4), 1 + (1 << 29));
    }
}
