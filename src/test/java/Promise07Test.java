/** Promise 7: phase. */
public final class Promise07Test {
    public static void main(String[] args) {
        Sentences.of("Promise 7: phase")
                .holds("phase() answers the present phase, in any phase: LOADING, READY or CYCLIC.",
                        Promise07Test::answers)
                .holds("Nothing changes.", Promise07Test::nothingChanges)
                .end();
        Due.end();
    }

    private static void answers() {
        for (Queries.State state : Queries.LOADING) {
            Due.same(state.name(), state.make().phase(), 0);
        }
        for (Queries.State state : Queries.READY) {
            Due.same(state.name(), state.make().phase(), 1);
        }
        for (Queries.State state : Queries.CYCLIC) {
            Due.same(state.name(), state.make().phase(), 2);
        }
        AcyclicJoin join = Queries.fresh();
        join.compile();
        Due.same("after a refused compile", join.phase(), AcyclicJoin.LOADING);
        join.addAtom(3);
        Due.same("after addAtom", join.phase(), AcyclicJoin.LOADING);
        join.addRow(0, 1, 1, 0);
        Due.same("after addRow", join.phase(), AcyclicJoin.LOADING);
        join.compile();
        Due.same("after compile", join.phase(), AcyclicJoin.READY);
        join.addAtom(3);
        join.addRow(0, 0, 0, 0);
        join.dropRow(0, 1, 1, 0);
        join.compile();
        Due.same("after refused calls", join.phase(), AcyclicJoin.READY);
        join.reopen();
        Due.same("after reopen", join.phase(), AcyclicJoin.LOADING);
        join.addAtom(6);
        join.addAtom(5);
        join.compile();
        Due.same("after compile of a ring", join.phase(), AcyclicJoin.CYCLIC);
        join.next(0);
        join.compile();
        Due.same("after refused calls", join.phase(), AcyclicJoin.CYCLIC);
        join.reopen();
        Due.same("after reopen of a ring", join.phase(), AcyclicJoin.LOADING);
    }

    private static void nothingChanges() {
        for (Queries.State state : Queries.ALL) {
            Story.unchanged(state.name() + ": phase", state.maker(), AcyclicJoin::phase);
        }
    }
}
