import java.util.List;

/** Promise 3: addRow. */
public final class Promise03Test {
    public static void main(String[] args) {
        Sentences.of("Promise 3: addRow")
                .holds("addRow(atom, x, y, z), conditions in order:", Promise03Test::order)
                .holds("Not in LOADING: WRONG_PHASE.", Promise03Test::wrongPhase)
                .holds("Bad atom: BAD.", Promise03Test::badAtom)
                .holds("One of the k values that are not ignored is bad: BAD.", Promise03Test::badValue)
                .holds("The atom already has this row: DUPLICATE (also when the atom has the greatest number of"
                        + " rows).", Promise03Test::duplicate)
                .holds("The atom has the greatest number of rows: FULL.", Promise03Test::full)
                .holds("Otherwise the row is stored in the atom, and OK is answered.", Promise03Test::stored)
                .holds("The other rows of the atom, all other atoms (also those with the same scope) and the phase"
                        + " do not change.", Promise03Test::othersStay)
                .end();
        Due.end();
    }

    private static void order() {
        AcyclicJoin ready = Queries.at(0, 0);
        AcyclicJoin cyclic = Queries.afterCompile(Queries.ring());
        for (AcyclicJoin join : new AcyclicJoin[] {ready, cyclic}) {
            Due.same("WRONG_PHASE before a bad atom", join.addRow(-1, 0, 0, 0), AcyclicJoin.WRONG_PHASE);
            Due.same("WRONG_PHASE before a bad value", join.addRow(0, 0, 4, 0), AcyclicJoin.WRONG_PHASE);
            Due.same("WRONG_PHASE before FULL", join.addRow(0, 1, 0, 0), AcyclicJoin.WRONG_PHASE);
        }
        Due.same("WRONG_PHASE before DUPLICATE", ready.addRow(0, 3, 1, 0), AcyclicJoin.WRONG_PHASE);
        Due.same("WRONG_PHASE before DUPLICATE", cyclic.addRow(0, 3, 3, 0), AcyclicJoin.WRONG_PHASE);
        AcyclicJoin join = Queries.five();
        Due.same("bad atom with bad values", join.addRow(2, 9, 9, 9), AcyclicJoin.BAD);
        Due.same("a bad value before FULL", join.addRow(0, 4, 0, 0), AcyclicJoin.BAD);
        Due.same("DUPLICATE before FULL", join.addRow(0, 2, 3, 0), AcyclicJoin.DUPLICATE);
        Due.same("FULL", join.addRow(0, 3, 2, 0), AcyclicJoin.FULL);
    }

    private static void wrongPhase() {
        List<Queries.State> wrong = Queries.join(Queries.READY, Queries.CYCLIC);
        for (int atom = 0; atom < 3; atom++) {
            int added = atom;
            Refused.inWrongPhase("addRow(" + atom + ", 1, 0, 0)", wrong, Queries.LOADING,
                    join -> join.addRow(added, 1, 0, 0));
        }
    }

    private static void badAtom() {
        Refused.badAtoms("addRow", false, (join, atom) -> join.addRow(atom, 2, 2, 2));
    }

    private static void badValue() {
        Refused.badValues("addRow", false, AcyclicJoin::addRow);
    }

    private static void duplicate() {
        int[] scopes = {16, 12, 41};
        for (int k = 1; k <= 3; k++) {
            for (int most = 2; most <= 8; most++) {
                AcyclicJoin join = new AcyclicJoin(6, 4, 3, most);
                join.addAtom(scopes[k - 1]);
                for (int row = 0; row < Math.min(most, 1 << (2 * k)); row++) {
                    join.addRow(0, row & 3, row >> 2, 3);
                    for (int older = 0; older <= row; older++) {
                        Due.same("k " + k + ": a row again, " + (row + 1) + " of " + most,
                                join.addRow(0, older & 3, older >> 2, 3), AcyclicJoin.DUPLICATE);
                    }
                }
            }
        }
        AcyclicJoin later = Queries.reopened(Queries.at(2, 2));
        Due.same("a live row after reopen", later.addRow(0, 3, 1, 0), AcyclicJoin.DUPLICATE);
        Due.same("a dangling row after reopen", later.addRow(0, 2, 3, 0), AcyclicJoin.DUPLICATE);
        Story.unchanged("a row again in a full atom", Queries::five, join -> join.addRow(0, 2, 3, 0));
        Story.unchanged("a row again in an atom with room", Queries::five, join -> join.addRow(1, 1, 3, 0));
    }

    private static void full() {
        for (int most = 2; most <= 8; most++) {
            AcyclicJoin join = new AcyclicJoin(4, 4, 3, most);
            join.addAtom(3);
            join.addAtom(14);
            for (int row = 0; row < 64; row++) {
                int due = row < most ? AcyclicJoin.OK : AcyclicJoin.FULL;
                Due.same("row " + row + " of " + most, join.addRow(1, row & 3, row >> 2 & 3, row >> 4), due);
            }
            for (int row = 0; row < 16; row++) {
                int due = row < most ? AcyclicJoin.OK : AcyclicJoin.FULL;
                Due.same("row " + row + " of " + most, join.addRow(0, row & 3, row >> 2, 0), due);
            }
            join.compile();
            join.reopen();
            Due.same("a full atom after reopen", join.addRow(0, 3, 3, 0), AcyclicJoin.FULL);
        }
        Story.unchanged("addRow to a full atom", Queries::five, join -> join.addRow(0, 1, 1, 0));
    }

    private static void stored() {
        int[] scopes = {32, 5, 38};
        for (int k = 1; k <= 3; k++) {
            for (int row = 0; row < 1 << (2 * k); row++) {
                AcyclicJoin join = new AcyclicJoin(6, 4, 3, 2);
                join.addAtom(scopes[k - 1]);
                int x = row & 3;
                int y = row >> 2 & 3;
                int z = row >> 4;
                Due.same("addRow", join.addRow(0, x, y, z), AcyclicJoin.OK);
                Due.same("the row", join.rowState(0, x, y, z), AcyclicJoin.STORED);
                join.compile();
                Due.same("count", join.count(), 1);
                Due.same("the row in READY", join.rowState(0, x, y, z), AcyclicJoin.LIVE);
            }
        }
        AcyclicJoin later = Queries.reopened(Queries.at(3, 6));
        Due.same("addRow after reopen", later.addRow(1, 3, 3, 0), AcyclicJoin.OK);
        later.compile();
        Due.same("count with the new row", later.count(), 6);
    }

    private static void othersStay() {
        for (int row = 0; row < 64; row++) {
            AcyclicJoin join = new AcyclicJoin(4, 4, 3, 2);
            join.addAtom(7);
            join.addAtom(7);
            join.addAtom(14);
            join.addRow(1, 0, 1, 2);
            List<Integer> before = Story.atom(join, 0);
            List<Integer> own = Story.atom(join, 1);
            List<Integer> behind = Story.atom(join, 2);
            join.addRow(1, row & 3, row >> 2 & 3, row >> 4);
            Due.same("phase", join.phase(), AcyclicJoin.LOADING);
            Due.yes("the atom before", Story.atom(join, 0).equals(before));
            Due.yes("the atom behind", Story.atom(join, 2).equals(behind));
            own.set(1 + row, AcyclicJoin.STORED);
            Due.yes("the other rows of the atom", Story.atom(join, 1).equals(own));
            Due.same("room in the atom of the same scope", join.addRow(0, 3, 3, 3), AcyclicJoin.OK);
            Due.same("room for two", join.addRow(0, 3, 3, 2), AcyclicJoin.OK);
        }
    }
}
