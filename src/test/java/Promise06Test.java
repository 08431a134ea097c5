/** Promise 6: reopen. */
public final class Promise06Test {
    public static void main(String[] args) {
        Sentences.of("Promise 6: reopen")
                .holds("reopen(): In LOADING: WRONG_PHASE.", Promise06Test::wrongPhase)
                .holds("Otherwise (in READY or CYCLIC) the phase becomes LOADING, and OK is answered.",
                        Promise06Test::reopened)
                .holds("All atoms and all stored rows, live or dangling, are kept.", Promise06Test::keepsAll)
                .holds("After this, atoms and rows can be added and rows dropped again, and compile can be called"
                        + " again.", Promise06Test::goesOn)
                .end();
        Due.end();
    }

    private static void wrongPhase() {
        Refused.inWrongPhase("reopen()", Queries.LOADING, Queries.join(Queries.READY, Queries.CYCLIC),
                AcyclicJoin::reopen);
        AcyclicJoin join = Queries.reopened(Queries.at(1, 1));
        Due.same("reopen twice", join.reopen(), AcyclicJoin.WRONG_PHASE);
        Due.same("phase", join.phase(), AcyclicJoin.LOADING);
    }

    private static void reopened() {
        for (Queries.State state : Queries.join(Queries.READY, Queries.CYCLIC)) {
            AcyclicJoin join = state.make();
            Due.same(state.name() + ": reopen", join.reopen(), AcyclicJoin.OK);
            Due.same(state.name() + ": phase", join.phase(), AcyclicJoin.LOADING);
            Due.same(state.name() + ": count", join.count(), AcyclicJoin.WRONG_PHASE);
            Due.same(state.name() + ": residue", join.residue(), AcyclicJoin.WRONG_PHASE);
        }
    }

    private static void keepsAll() {
        for (Queries.State state : Queries.join(Queries.READY, Queries.CYCLIC)) {
            AcyclicJoin join = state.make();
            AcyclicJoin before = state.make();
            join.reopen();
            for (int atom = 0; atom < 6; atom++) {
                Due.yes(state.name() + ": atom " + atom, Story.atom(join, atom).equals(Story.atom(before, atom)));
            }
        }
        Story.same("five reopened", Queries::five, () -> Queries.reopened(Queries.at(2, 6)));
        Story.same("a ring reopened", Queries::ring, () -> Queries.reopened(Queries.afterCompile(Queries.ring())));
        AcyclicJoin join = Queries.reopened(Queries.at(0, 0));
        Due.same("a live row", join.rowState(0, 3, 1, 0), AcyclicJoin.STORED);
        Due.same("a dangling row", join.rowState(0, 2, 3, 0), AcyclicJoin.STORED);
    }

    private static void goesOn() {
        AcyclicJoin join = Queries.reopened(Queries.at(5, 2));
        Due.same("addAtom", join.addAtom(4), 2);
        Due.same("addRow to the new atom", join.addRow(2, 3, 0, 0), AcyclicJoin.OK);
        Due.same("addRow to an old atom", join.addRow(1, 3, 1, 0), AcyclicJoin.OK);
        Due.same("dropRow", join.dropRow(0, 3, 1, 0), AcyclicJoin.OK);
        Due.same("compile", join.compile(), AcyclicJoin.READY);
        int[][] due = {{0, 1, 3, 2}, {0, 1, 3, 3}, {0, 2, 3, 0}, {2, 3, 3, 1}};
        Due.same("count", join.count(), due.length);
        for (int[] answer : due) {
            Due.same("next", join.next(1), AcyclicJoin.MOVED);
            Queries.isOn(join, 1, answer);
        }
        Due.same("next after the last", join.next(1), AcyclicJoin.AT_END);
        Due.same("the row that dangled", join.rowState(0, 2, 3, 0), AcyclicJoin.LIVE);
        Due.same("the row that was dropped", join.rowState(0, 3, 1, 0), AcyclicJoin.ABSENT);
        staleMarks();
        AcyclicJoin ring = Queries.reopened(Queries.afterCompile(Queries.ring()));
        Due.same("addAtom after CYCLIC", ring.addAtom(7), 3);
        Due.same("addRow after CYCLIC", ring.addRow(3, 0, 0, 0), AcyclicJoin.OK);
        Due.same("dropRow after CYCLIC", ring.dropRow(0, 3, 3, 0), AcyclicJoin.OK);
        Due.same("compile after CYCLIC", ring.compile(), AcyclicJoin.READY);
        Due.same("count after CYCLIC", ring.count(), 1);
    }

    /** What the first compile found must not outlive the second. */
    private static void staleMarks() {
        AcyclicJoin join = Queries.at(2, 2);
        Due.same("live(1) before", join.live(1), 3);
        join.reopen();
        join.dropRow(0, 0, 2, 0);
        join.compile();
        Due.same("live(1) without its partner", join.live(1), 2);
        Due.same("a row without its partner", join.rowState(1, 2, 0, 0), AcyclicJoin.DANGLING);
        Due.same("live(0) without the row", join.live(0), 2);
        Due.same("count", join.count(), 4);
        join.reopen();
        join.addRow(0, 0, 2, 0);
        join.compile();
        Due.same("live(1) with its partner", join.live(1), 3);
        Due.same("count", join.count(), 5);
        for (int atom = 0; atom < 6; atom++) {
            for (int row = 0; row < 64; row++) {
                liveThenDangling(atom, row & 3, row >> 2 & 3, row >> 4);
            }
        }
    }

    /** The row is live in each of six atoms, until it is dropped from the one behind this. */
    private static void liveThenDangling(int atom, int x, int y, int z) {
        AcyclicJoin join = Queries.of(7, 7, 7, 7, 7, 7);
        for (int each = 0; each < 6; each++) {
            join.addRow(each, x, y, z);
        }
        join.compile();
        String row = "row " + x + " " + y + " " + z + " of atom " + atom;
        Due.same(row + " at first", join.rowState(atom, x, y, z), AcyclicJoin.LIVE);
        join.reopen();
        join.dropRow((atom + 1) % 6, x, y, z);
        join.compile();
        Due.same(row + " later", join.rowState(atom, x, y, z), AcyclicJoin.DANGLING);
        Due.same("live later", join.live(atom), 0);
        Due.same("count later", join.count(), 0);
        Due.same("next later", join.next(0), AcyclicJoin.AT_END);
    }
}
