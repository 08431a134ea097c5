/** Promise 11: rowState. */
public final class Promise11Test {
    public static void main(String[] args) {
        Sentences.of("Promise 11: rowState")
                .holds("rowState(atom, x, y, z), in any phase, conditions in order:", Promise11Test::order)
                .holds("Bad atom: BAD.", Promise11Test::badAtom)
                .holds("One of the k values that are not ignored is bad: BAD.", Promise11Test::badValue)
                .holds("The atom does not have this row: ABSENT.", Promise11Test::absent)
                .holds("In LOADING or CYCLIC: STORED.", Promise11Test::stored)
                .holds("Otherwise (in READY) the answer is LIVE if there is an answer of the query that gives the"
                        + " variables of the scope the values of this row, and DANGLING if there is none.",
                        Promise11Test::liveOrDangling)
                .holds("Nothing changes; a dangling row remains a stored row of its atom.",
                        Promise11Test::nothingChanges)
                .end();
        Due.end();
    }

    private static void order() {
        for (Queries.State state : Queries.ALL) {
            AcyclicJoin join = state.make();
            Due.same(state.name() + ": bad atom and bad values", join.rowState(5, 9, 9, 9), AcyclicJoin.BAD);
            Due.same(state.name() + ": bad atom, no such row", join.rowState(-1, 1, 0, 0), AcyclicJoin.BAD);
            Due.same(state.name() + ": bad value, so no such row", join.rowState(0, 0, 4, 0), AcyclicJoin.BAD);
            boolean fresh = join.scope(0) == AcyclicJoin.BAD;
            Due.same(state.name() + ": ABSENT before the phase", join.rowState(0, 1, 0, 0),
                    fresh ? AcyclicJoin.BAD : AcyclicJoin.ABSENT);
        }
    }

    private static void badAtom() {
        Refused.badAtoms("rowState", false, (join, atom) -> join.rowState(atom, 1, 1, 1));
        Refused.badAtoms("rowState", true, (join, atom) -> join.rowState(atom, 1, 1, 1));
        AcyclicJoin cyclic = Queries.compiled(3, 6, 5);
        for (int atom : Queries.WILD) {
            Due.same("CYCLIC: rowState of atom " + atom, cyclic.rowState(atom, 0, 0, 0),
                    Queries.outside(atom, 3) ? AcyclicJoin.BAD : AcyclicJoin.ABSENT);
        }
    }

    private static void badValue() {
        Refused.badValues("rowState", false, AcyclicJoin::rowState);
        Refused.badValues("rowState", true, AcyclicJoin::rowState);
        AcyclicJoin cyclic = Queries.compiled(3, 6, 5);
        for (int value : Queries.WILD) {
            int due = Queries.outside(value, 4) ? AcyclicJoin.BAD : AcyclicJoin.ABSENT;
            Due.same("CYCLIC: rowState with x " + value, cyclic.rowState(1, value, 0, 0), due);
            Due.same("CYCLIC: rowState with y " + value, cyclic.rowState(1, 0, value, 0), due);
            Due.same("CYCLIC: rowState with z " + value, cyclic.rowState(1, 0, 0, value), AcyclicJoin.ABSENT);
        }
    }

    /** Only the row (1, 2, 3) of atom 1 is there. */
    private static void absentBut(AcyclicJoin join, int there) {
        for (int row = 0; row < 64; row++) {
            int x = row & 3;
            int y = row >> 2 & 3;
            int z = row >> 4;
            boolean stored = x == 1 && y == 2 && z == 3;
            String call = "rowState(.., " + x + ", " + y + ", " + z + ") in " + join.phase();
            Due.same(call, join.rowState(1, x, y, z), stored ? there : AcyclicJoin.ABSENT);
            Due.same(call, join.rowState(0, x, y, z), AcyclicJoin.ABSENT);
            Due.same(call, join.rowState(2, x, y, z), AcyclicJoin.ABSENT);
        }
    }

    private static void absent() {
        AcyclicJoin join = Queries.of(7, 7, 7);
        join.addRow(1, 1, 2, 3);
        absentBut(join, AcyclicJoin.STORED);
        join.compile();
        absentBut(join, AcyclicJoin.DANGLING);
        AcyclicJoin cyclic = Queries.of(7, 28, 49, 7);
        cyclic.addRow(1, 1, 2, 3);
        cyclic.compile();
        absentBut(cyclic, AcyclicJoin.STORED);
        join.reopen();
        join.dropRow(1, 1, 2, 3);
        Due.same("a dropped row", join.rowState(1, 1, 2, 3), AcyclicJoin.ABSENT);
    }

    private static void stored() {
        AcyclicJoin join = Queries.five();
        Due.same("in LOADING", join.rowState(0, 3, 1, 0), AcyclicJoin.STORED);
        Due.same("in LOADING", join.rowState(0, 2, 3, 0), AcyclicJoin.STORED);
        join.compile();
        Due.same("in READY", join.rowState(0, 3, 1, 0), AcyclicJoin.LIVE);
        join.reopen();
        Due.same("a live row back in LOADING", join.rowState(0, 3, 1, 0), AcyclicJoin.STORED);
        Due.same("a dangling row back in LOADING", join.rowState(0, 2, 3, 0), AcyclicJoin.STORED);
        join.addAtom(9);
        join.addRow(2, 3, 3, 0);
        join.compile();
        Due.same("phase", join.phase(), AcyclicJoin.CYCLIC);
        Due.same("a row that was live in CYCLIC", join.rowState(0, 3, 1, 0), AcyclicJoin.STORED);
        Due.same("a row that dangled in CYCLIC", join.rowState(0, 2, 3, 0), AcyclicJoin.STORED);
        Due.same("a new row in CYCLIC", join.rowState(2, 3, 3, 0), AcyclicJoin.STORED);
    }

    private static void liveOrDangling() {
        AcyclicJoin five = Queries.at(0, 0);
        Due.same("(3, 1)", five.rowState(0, 3, 1, 0), AcyclicJoin.LIVE);
        Due.same("(0, 2)", five.rowState(0, 0, 2, 0), AcyclicJoin.LIVE);
        Due.same("(0, 1)", five.rowState(0, 0, 1, 0), AcyclicJoin.LIVE);
        Due.same("(2, 3)", five.rowState(0, 2, 3, 0), AcyclicJoin.DANGLING);
        Due.same("(2, 0)", five.rowState(1, 2, 0, 0), AcyclicJoin.LIVE);
        Due.same("(1, 3)", five.rowState(1, 1, 3, 0), AcyclicJoin.LIVE);
        Due.same("(1, 2)", five.rowState(1, 1, 2, 0), AcyclicJoin.LIVE);
        danglingFromAfar();
        AcyclicJoin none = Queries.afterCompile(Queries.none());
        Due.same("without answers", none.rowState(0, 3, 1, 0), AcyclicJoin.DANGLING);
        // The atoms 1 and 2 meet in nothing, so atom 0, which shares no variable with them, has no live row.
        AcyclicJoin apart = Queries.of(1, 6, 6);
        apart.addRow(0, 1, 0, 0);
        apart.addRow(1, 2, 2, 0);
        apart.addRow(2, 2, 3, 0);
        apart.compile();
        Due.same("an atom apart", apart.rowState(0, 1, 0, 0), AcyclicJoin.DANGLING);
    }

    /** Each row of the path fits a row of each neighbour; still only the rows of zeros are in an answer. */
    private static void danglingFromAfar() {
        AcyclicJoin path = Queries.of(3, 6, 12, 24);
        for (int atom = 0; atom < 4; atom++) {
            path.addRow(atom, 0, 0, 0);
            path.addRow(atom, atom < 3 ? 1 : 2, atom < 3 ? 1 : 2, 0);
            path.addRow(atom, atom > 0 ? 2 : 1, atom > 0 ? 2 : 1, 0);
        }
        path.compile();
        for (int atom = 0; atom < 4; atom++) {
            Due.same("zeros in atom " + atom, path.rowState(atom, 0, 0, 0), AcyclicJoin.LIVE);
            Due.same("ones in atom " + atom, path.rowState(atom, 1, 1, 0),
                    atom < 3 ? AcyclicJoin.DANGLING : AcyclicJoin.ABSENT);
            Due.same("twos in atom " + atom, path.rowState(atom, 2, 2, 0),
                    atom > 0 ? AcyclicJoin.DANGLING : AcyclicJoin.ABSENT);
        }
    }

    private static void nothingChanges() {
        for (Queries.State state : Queries.ALL) {
            for (int[] row : new int[][] {{0, 3, 1}, {0, 2, 3}, {0, 0, 0}, {1, 1, 3}, {2, 0, 0}, {9, 0, 0}, {0, 4, 0}}) {
                Story.unchanged(state.name() + ": rowState", state.maker(),
                        join -> join.rowState(row[0], row[1], row[2], 0));
            }
        }
        AcyclicJoin join = Queries.at(0, 0);
        for (int time = 0; time < 3; time++) {
            Due.same("a dangling row asked for again", join.rowState(0, 2, 3, 0), AcyclicJoin.DANGLING);
        }
        join.reopen();
        Due.same("a dangling row takes room", join.addRow(0, 1, 1, 0), AcyclicJoin.FULL);
        Due.same("a dangling row is a duplicate", join.addRow(0, 2, 3, 0), AcyclicJoin.DUPLICATE);
        Due.same("a dangling row can be dropped", join.dropRow(0, 2, 3, 0), AcyclicJoin.OK);
    }
}
