/** Promise 12: live. */
public final class Promise12Test {
    public static void main(String[] args) {
        Sentences.of("Promise 12: live")
                .holds("live(atom), conditions in order:", Promise12Test::order)
                .holds("Not in READY: WRONG_PHASE.", Promise12Test::wrongPhase)
                .holds("Bad atom: BAD.", Promise12Test::badAtom)
                .holds("Otherwise the number of rows of the atom for which rowState answers LIVE.",
                        Promise12Test::liveRows)
                .holds("It is 0 if the query has no answers.", Promise12Test::withoutAnswers)
                .holds("Nothing changes.", Promise12Test::nothingChanges)
                .end();
        Due.end();
    }

    private static void order() {
        for (Queries.State state : Queries.join(Queries.LOADING, Queries.CYCLIC)) {
            for (int atom : new int[] {Integer.MIN_VALUE, -1, 4, 6, Integer.MAX_VALUE}) {
                Due.same(state.name() + ": live(" + atom + ")", state.make().live(atom), AcyclicJoin.WRONG_PHASE);
            }
        }
    }

    private static void wrongPhase() {
        for (int atom = 0; atom < 2; atom++) {
            int asked = atom;
            Refused.inWrongPhase("live(" + atom + ")", Queries.join(Queries.LOADING, Queries.CYCLIC), Queries.READY,
                    join -> join.live(asked));
        }
    }

    private static void badAtom() {
        Refused.badAtoms("live", true, AcyclicJoin::live);
    }

    private static void liveRows() {
        AcyclicJoin five = Queries.at(0, 0);
        Due.same("live(0)", five.live(0), 3);
        Due.same("live(1)", five.live(1), 3);
        for (int rows = 0; rows <= 8; rows++) {
            AcyclicJoin join = Queries.of(7, 56);
            join.addRow(1, 3, 3, 3);
            for (int row = 0; row < rows; row++) {
                join.addRow(0, row & 3, 3 - (row & 3), row >> 2);
            }
            join.compile();
            Due.same("live(0) of " + rows, join.live(0), rows);
            Due.same("live(1) beside " + rows, join.live(1), rows == 0 ? 0 : 1);
        }
        AcyclicJoin meeting = Queries.of(21, 21);
        for (int value = 0; value < 4; value++) {
            meeting.addRow(0, value, 0, value);
            meeting.addRow(1, value, value % 2, value);
        }
        meeting.compile();
        for (int atom = 0; atom < 2; atom++) {
            int states = 0;
            for (int row = 0; row < 64; row++) {
                int state = meeting.rowState(atom, row & 3, row >> 2 & 3, row >> 4);
                states += state == AcyclicJoin.LIVE ? 1 : 0;
            }
            Due.same("rows for which rowState answers LIVE", states, 2);
            Due.same("live(" + atom + ")", meeting.live(atom), 2);
        }
    }

    private static void withoutAnswers() {
        AcyclicJoin none = Queries.afterCompile(Queries.none());
        for (int atom = 0; atom < 3; atom++) {
            Due.same("live(" + atom + ") with an atom without rows", none.live(atom), 0);
        }
        AcyclicJoin never = Queries.of(1, 2, 2);
        never.addRow(0, 1, 0, 0);
        never.addRow(1, 1, 0, 0);
        never.addRow(2, 2, 0, 0);
        never.compile();
        for (int atom = 0; atom < 3; atom++) {
            Due.same("live(" + atom + ") of atoms that don't meet", never.live(atom), 0);
        }
        AcyclicJoin before = Queries.at(1, 1);
        before.reopen();
        before.addAtom(4);
        before.compile();
        Due.same("live(0) where there were answers before", before.live(0), 0);
    }

    private static void nothingChanges() {
        for (Queries.State state : Queries.ALL) {
            for (int atom = -1; atom <= 4; atom++) {
                int asked = atom;
                Story.unchanged(state.name() + ": live(" + atom + ")", state.maker(), join -> join.live(asked));
            }
        }
    }
}
