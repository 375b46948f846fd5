/** The terms: BAD, NO, FULL, of several the first; and how many calls an object is used for. */
public final class TermsRefusedTest extends TestBase {
    public static void main(String[] args) throws ReflectiveOperationException {
        due.runTests(TermsRefusedTest.class, "refused_");
    }

    static void refused_constants() {
        due.is("BAD", BAD, -1);
        due.is("NO", NO, -2);
        due.is("FULL", FULL, -3);
        due.is("NONE", NONE, -4);
    }

    static void refused_badAheadOfNo() {
        refusedIn(State.BUSY, "person", (x, s) -> x.person(7, 0, 0, 1, 1, 0, 0), BAD);
        refusedIn(State.CROWD, "turn", (x, s) -> x.turn(101), BAD);
    }

    static void refused_badAheadOfFull() {
        refusedIn(State.CROWD, "person", (x, s) -> x.person(6, 0, 1, 3, 1, 0, 0), BAD);
        refusedIn(State.LATE, "ticks", (x, s) -> x.ticks(201), BAD);
    }

    static void refused_noAheadOfFull() {
        refusedIn(State.CROWD, "person", (x, s) -> x.person(5, 0, 1, 1, 1, 0, 0), NO);
    }

    static void refused_badAheadOfBoth() {
        refusedIn(State.CROWD, "person", (x, s) -> x.person(5, 0, 8, 1, 1, 0, 0), BAD);
    }

    /** The states that the refused calls are tried in hold what they are said to hold. */
    static void refused_statesAreAsTold() {
        for (State s : State.all()) {
            CabinChain x = s.make().get();
            due.is(s.name() + ": people", x.count(0), s.people());
            due.is(s.name() + ": kept", x.count(7), s.kept());
            due.isTrue(s.name() + ": floors", x.counted(s.floors() - 1, 0) >= 0);
            due.is(s.name() + ": no more floors", x.counted(s.floors(), 0), BAD);
            due.is(s.name() + ": steps", x.box(1, 0) - x.box(0, 0), s.steps());
        }
        CabinChain busy = State.BUSY.make().get();
        int[] where = {IN_BOX, DONE, WALKS, STANDS, YET_TO_COME};
        for (int p = 0; p < where.length; p++) {
            due.is("busy: person " + p, busy.about(p, 0), where[p]);
        }
        due.is("busy: between floors", busy.left(), 0);
        due.is("late: ticks", State.LATE.make().get().count(1), 2000);
        due.is("crowd: told", State.CROWD.make().get().count(8), 16);
    }

    static void refused_the512thCallAnswersAsTheFirst() {
        CabinChain x = new CabinChain();
        for (int i = 1; i <= 511; i++) {
            due.is("house " + i, x.house(2 + i % 7, 12, 12, 4), 6 + 2 * (i % 7));
        }
        due.is("call 512", x.count(0), 0);
        CabinChain y = new CabinChain();
        for (int i = 1; i <= 511; i++) {
            due.is("person " + i, y.person(900, 0, 1, 1, 1, 0, 0), i <= 30 ? i - 1 : FULL);
        }
        // Two take the first box, at a cost of 3, three each of the nine that follow 4 ticks apart, one the last.
        due.is("call 512", y.cost(1, -1), 2 * 3 + 3 * (9 * 3 + 4 * 45) + 43);
    }
}
