/** Promise 9: residue. */
public final class Promise09Test {
    public static void main(String[] args) {
        Sentences.of("Promise 9: residue")
                .holds("residue(): In LOADING: WRONG_PHASE.", Promise09Test::wrongPhase)
                .holds("Otherwise the mask of the residue R is answered.", Promise09Test::answers)
                .holds("It is 0 in READY and not 0 in CYCLIC.", Promise09Test::zeroInReadyAlone)
                .holds("Nothing changes.", Promise09Test::nothingChanges)
                .end();
        Due.end();
    }

    private static void wrongPhase() {
        Refused.inWrongPhase("residue()", Queries.LOADING, Queries.join(Queries.READY, Queries.CYCLIC),
                AcyclicJoin::residue);
    }

    private static void answers() {
        Due.same("a ring of three", Queries.compiled(3, 6, 5).residue(), 7);
        Due.same("a ring of four", Queries.compiled(3, 6, 12, 9).residue(), 15);
        Due.same("a ring of six", Queries.compiled(3, 6, 12, 24, 48, 33).residue(), 63);
        Due.same("a ring of the last three", Queries.compiled(24, 48, 40).residue(), 56);
        Due.same("a ring with a tail", Queries.compiled(3, 6, 5, 12, 24).residue(), 7);
        AcyclicJoin join = Queries.compiled(3, 6, 5);
        join.reopen();
        join.addAtom(24);
        join.addAtom(48);
        join.addAtom(40);
        join.compile();
        Due.same("two rings", join.residue(), 63);
        AcyclicJoin closed = Queries.compiled(3, 6, 5);
        closed.reopen();
        closed.addAtom(7);
        closed.compile();
        Due.same("a ring that got a lid", closed.residue(), 0);
    }

    private static void zeroInReadyAlone() {
        for (Queries.State state : Queries.READY) {
            Due.same(state.name() + ": residue", state.make().residue(), 0);
        }
        for (Queries.State state : Queries.CYCLIC) {
            Due.yes(state.name() + ": residue is a mask, not 0", state.make().residue() > 0);
        }
        for (int first = 1; first < 64; first++) {
            for (int second = first; second < 64; second++) {
                AcyclicJoin join = Queries.of(first, second, 41);
                int phase = join.compile();
                int residue = join.residue();
                Due.yes("residue of " + first + " " + second,
                        phase == AcyclicJoin.READY ? residue == 0 : residue > 0 && residue < 64);
            }
        }
    }

    private static void nothingChanges() {
        for (Queries.State state : Queries.ALL) {
            Story.unchanged(state.name() + ": residue", state.maker(), AcyclicJoin::residue);
        }
    }
}
