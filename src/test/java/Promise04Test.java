import java.util.List;

/** Promise 4: dropRow. */
public final class Promise04Test {
    public static void main(String[] args) {
        Sentences.of("Promise 4: dropRow")
                .holds("dropRow(atom, x, y, z), conditions in order:", Promise04Test::order)
                .holds("Not in LOADING: WRONG_PHASE.", Promise04Test::wrongPhase)
                .holds("Bad atom: BAD.", Promise04Test::badAtom)
                .holds("One of the k values that are not ignored is bad: BAD.", Promise04Test::badValue)
                .holds("The atom does not have this row: ABSENT.", Promise04Test::absent)
                .holds("Otherwise the row is removed from the atom, which then has one row less towards its limit,"
                        + " and OK is answered.", Promise04Test::removed)
                .holds("The atom itself stays, even if it has no rows left.", Promise04Test::atomStays)
                .holds("The other rows of the atom, all other atoms and the phase do not change.",
                        Promise04Test::othersStay)
                .end();
        Due.end();
    }

    private static void order() {
        AcyclicJoin ready = Queries.at(0, 0);
        AcyclicJoin cyclic = Queries.afterCompile(Queries.ring());
        for (AcyclicJoin join : new AcyclicJoin[] {ready, cyclic}) {
            Due.same("WRONG_PHASE before a bad atom", join.dropRow(9, 0, 0, 0), AcyclicJoin.WRONG_PHASE);
            Due.same("WRONG_PHASE before a bad value", join.dropRow(0, 4, 0, 0), AcyclicJoin.WRONG_PHASE);
            Due.same("WRONG_PHASE before ABSENT", join.dropRow(0, 1, 0, 0), AcyclicJoin.WRONG_PHASE);
        }
        AcyclicJoin join = Queries.five();
        Due.same("bad atom with bad values", join.dropRow(2, 9, 9, 9), AcyclicJoin.BAD);
        Due.same("a bad atom before ABSENT", join.dropRow(2, 0, 0, 0), AcyclicJoin.BAD);
        Due.same("a bad value before ABSENT", join.dropRow(0, 0, 4, 0), AcyclicJoin.BAD);
    }

    private static void wrongPhase() {
        List<Queries.State> wrong = Queries.join(Queries.READY, Queries.CYCLIC);
        // Rows that are stored, live and dangling ones, and rows that are not.
        for (int[] row : new int[][] {{0, 0, 1}, {0, 2, 3}, {0, 3, 3}, {1, 1, 3}, {1, 0, 0}, {2, 0, 0}, {0, 1, 0}}) {
            Refused.inWrongPhase("dropRow(" + row[0] + ", " + row[1] + ", " + row[2] + ", 0)", wrong, Queries.LOADING,
                    join -> join.dropRow(row[0], row[1], row[2], 0));
        }
    }

    private static void badAtom() {
        Refused.badAtoms("dropRow", false, (join, atom) -> join.dropRow(atom, 1, 1, 1));
    }

    private static void badValue() {
        Refused.badValues("dropRow", false, AcyclicJoin::dropRow);
    }

    private static void absent() {
        AcyclicJoin join = Queries.of(7, 7, 3);
        for (int row = 0; row < 64; row++) {
            Due.same("a row of an atom without rows", join.dropRow(0, row & 3, row >> 2 & 3, row >> 4),
                    AcyclicJoin.ABSENT);
        }
        join.addRow(1, 1, 2, 3);
        Due.same("a row of another atom alone", join.dropRow(0, 1, 2, 3), AcyclicJoin.ABSENT);
        Due.same("the same values in another order", join.dropRow(1, 3, 2, 1), AcyclicJoin.ABSENT);
        Due.same("another x", join.dropRow(1, 0, 2, 3), AcyclicJoin.ABSENT);
        Due.same("another y", join.dropRow(1, 1, 1, 3), AcyclicJoin.ABSENT);
        Due.same("another z", join.dropRow(1, 1, 2, 2), AcyclicJoin.ABSENT);
        Due.same("the row", join.dropRow(1, 1, 2, 3), AcyclicJoin.OK);
        Due.same("the row that was dropped", join.dropRow(1, 1, 2, 3), AcyclicJoin.ABSENT);
        Story.unchanged("dropRow of a row that is not there", Queries::five, five -> five.dropRow(1, 0, 1, 0));
    }

    private static void removed() {
        for (int most = 2; most <= 8; most++) {
            AcyclicJoin join = new AcyclicJoin(3, 4, 3, most);
            join.addAtom(6);
            for (int row = 0; row < most; row++) {
                join.addRow(0, row & 3, row >> 2, 0);
            }
            for (int row = 0; row < most; row++) {
                Due.same("full with " + most, join.addRow(0, 3, 3, 0), AcyclicJoin.FULL);
                Due.same("dropRow", join.dropRow(0, row & 3, row >> 2, 0), AcyclicJoin.OK);
                Due.same("the dropped row", join.rowState(0, row & 3, row >> 2, 0), AcyclicJoin.ABSENT);
                Due.same("room for one", join.addRow(0, row & 3, 2 + (row >> 2), 0), AcyclicJoin.OK);
            }
            Due.same("room for no more", join.addRow(0, 3, 1, 0), AcyclicJoin.FULL);
        }
        AcyclicJoin later = Queries.reopened(Queries.at(2, 0));
        Due.same("dropRow of a live row after reopen", later.dropRow(0, 3, 1, 0), AcyclicJoin.OK);
        Due.same("dropRow of a dangling row after reopen", later.dropRow(0, 2, 3, 0), AcyclicJoin.OK);
        later.compile();
        Due.same("count without them", later.count(), 3);
    }

    private static void atomStays() {
        AcyclicJoin join = Queries.of(3, 12);
        join.addRow(0, 1, 1, 0);
        join.addRow(1, 2, 2, 0);
        join.dropRow(0, 1, 1, 0);
        Due.same("scope(0)", join.scope(0), 3);
        Due.same("scope(1)", join.scope(1), 12);
        Due.same("a row of the empty atom", join.rowState(0, 1, 1, 0), AcyclicJoin.ABSENT);
        join.compile();
        Due.same("the empty atom leaves no answer", join.count(), 0);
        join.reopen();
        Due.same("addAtom takes a new index", join.addAtom(1), 2);
        Due.same("a row for the empty atom", join.addRow(0, 2, 0, 0), AcyclicJoin.OK);
        AcyclicJoin ring = Queries.of(3, 6, 5);
        ring.addRow(2, 1, 1, 0);
        ring.dropRow(2, 1, 1, 0);
        Due.same("the empty atom closes the ring", ring.compile(), AcyclicJoin.CYCLIC);
    }

    private static void othersStay() {
        for (int row = 0; row < 64; row++) {
            AcyclicJoin join = Queries.of(7, 7, 14);
            for (int atom = 0; atom < 3; atom++) {
                join.addRow(atom, 0, 1, 2);
                join.addRow(atom, 3, 3, 3);
                join.addRow(atom, row & 3, row >> 2 & 3, row >> 4);
            }
            List<Integer> before = Story.atom(join, 0);
            List<Integer> own = Story.atom(join, 1);
            List<Integer> behind = Story.atom(join, 2);
            Due.same("dropRow", join.dropRow(1, row & 3, row >> 2 & 3, row >> 4), AcyclicJoin.OK);
            Due.same("phase", join.phase(), AcyclicJoin.LOADING);
            Due.yes("the atom before", Story.atom(join, 0).equals(before));
            Due.yes("the atom behind", Story.atom(join, 2).equals(behind));
            own.set(1 + row, AcyclicJoin.ABSENT);
            Due.yes("the other rows of the atom", Story.atom(join, 1).equals(own));
        }
    }
}
