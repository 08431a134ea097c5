import java.util.List;

/** Promise 5: compile. */
public final class Promise05Test {
    public static void main(String[] args) {
        Sentences.of("Promise 5: compile")
                .holds("compile(), conditions in order:", Promise05Test::order)
                .holds("Not in LOADING: WRONG_PHASE.", Promise05Test::wrongPhase)
                .holds("There are no atoms: EMPTY (the phase stays LOADING).", Promise05Test::empty)
                .holds("Otherwise both cursors are put at the start, and the phase becomes READY if the residue R is"
                        + " empty, CYCLIC if it is not.", Promise05Test::compiled)
                .holds("The new phase (READY or CYCLIC) is answered.", Promise05Test::answersThePhase)
                .holds("Atoms and stored rows are kept as they are.", Promise05Test::keepsAtomsAndRows)
                .holds("Rows, or the lack of them, have no influence on which phase results.",
                        Promise05Test::rowsHaveNoInfluence)
                .end();
        Due.end();
    }

    // No state has both conditions, since a query without atoms never leaves LOADING; so each is seen alone.
    private static void order() {
        AcyclicJoin join = Queries.fresh();
        Due.same("compile without atoms", join.compile(), AcyclicJoin.EMPTY);
        Due.same("compile without atoms again", join.compile(), AcyclicJoin.EMPTY);
        join.addAtom(1);
        Due.same("compile with an atom", join.compile(), AcyclicJoin.READY);
        Due.same("compile again", join.compile(), AcyclicJoin.WRONG_PHASE);
        Due.same("compile yet again", join.compile(), AcyclicJoin.WRONG_PHASE);
    }

    private static void wrongPhase() {
        List<Queries.State> wrong = Queries.join(Queries.READY, Queries.CYCLIC);
        Refused.inWrongPhase("compile()", wrong, Queries.LOADING, AcyclicJoin::compile);
    }

    private static void empty() {
        AcyclicJoin join = Queries.fresh();
        join.addAtom(0);
        join.addRow(0, 0, 0, 0);
        Due.same("compile after refused calls alone", join.compile(), AcyclicJoin.EMPTY);
        Due.same("phase", join.phase(), AcyclicJoin.LOADING);
        Due.same("reopen", join.reopen(), AcyclicJoin.WRONG_PHASE);
        Due.same("addAtom is still taken", join.addAtom(1), 0);
        Due.same("an atom without rows is an atom", join.compile(), AcyclicJoin.READY);
        Story.unchanged("compile without atoms", Queries::fresh, AcyclicJoin::compile);
    }

    private static void compiled() {
        for (int first = 0; first <= 6; first++) {
            for (int second = 0; second <= 6; second++) {
                AcyclicJoin join = Queries.reopened(Queries.at(first, second));
                join.compile();
                Due.same("phase", join.phase(), AcyclicJoin.READY);
                Queries.isAtStart(join, 0);
                Queries.isAtStart(join, 1);
                join.next(0);
                Queries.isOn(join, 0, Queries.FIVE[0]);
                Queries.isAtStart(join, 1);
                join.next(1);
                Queries.isOn(join, 1, Queries.FIVE[0]);
            }
        }
        AcyclicJoin ring = Queries.ring();
        ring.compile();
        Due.same("phase of a ring", ring.phase(), AcyclicJoin.CYCLIC);
        ring.reopen();
        ring.addAtom(7);
        ring.addRow(3, 0, 0, 0);
        ring.compile();
        Due.same("phase of a ring with a lid", ring.phase(), AcyclicJoin.READY);
        Queries.isAtStart(ring, 0);
        Queries.isAtStart(ring, 1);
        for (int choice = 0; choice < 300; choice++) {
            int[] scopes = {1 + choice % 7, 1 + choice / 7 % 7, 1 + choice / 49};
            Model model = new Model(6, 4, 6, 8);
            for (int scope : scopes) {
                model.addAtom(scope);
            }
            model.compile();
            Due.same("phase of " + scopes[0] + " " + scopes[1] + " " + scopes[2],
                    Queries.compiled(scopes).phase(), model.residue() == 0 ? AcyclicJoin.READY : AcyclicJoin.CYCLIC);
        }
    }

    private static void answersThePhase() {
        Due.same("compile of five", Queries.five().compile(), AcyclicJoin.READY);
        Due.same("compile of none", Queries.none().compile(), AcyclicJoin.READY);
        Due.same("compile of a ring", Queries.ring().compile(), AcyclicJoin.CYCLIC);
        AcyclicJoin join = Queries.of(3, 6);
        Due.same("compile of a path", join.compile(), AcyclicJoin.READY);
        join.reopen();
        join.addAtom(5);
        Due.same("compile of the path closed", join.compile(), AcyclicJoin.CYCLIC);
        join.reopen();
        Due.same("compile of it again", join.compile(), AcyclicJoin.CYCLIC);
        join.reopen();
        join.addAtom(7);
        Due.same("compile of it with a lid", join.compile(), AcyclicJoin.READY);
    }

    private static void keepsAtomsAndRows() {
        for (Queries.State state : Queries.LOADING) {
            AcyclicJoin join = state.make();
            AcyclicJoin other = state.make();
            join.compile();
            for (int atom = 0; atom < 6; atom++) {
                Due.yes(state.name() + ": atom " + atom, Story.atom(join, atom).equals(Story.atom(other, atom)));
            }
            Story.same(state.name() + ": compile and reopen", state.maker(),
                    () -> Queries.reopened(Queries.afterCompile(state.make())));
        }
    }

    private static void rowsHaveNoInfluence() {
        for (int[] scopes : new int[][] {{3, 6, 5}, {7, 28, 49}, {3, 6, 12, 24, 48, 33}}) {
            withEveryChoiceOfRows(scopes, AcyclicJoin.CYCLIC);
        }
        for (int[] scopes : new int[][] {{3, 6, 12}, {7, 28, 49, 21}, {1, 1, 1}, {3, 6, 12, 24, 48, 1}}) {
            withEveryChoiceOfRows(scopes, AcyclicJoin.READY);
        }
    }

    private static void withEveryChoiceOfRows(int[] scopes, int phase) {
        for (int filled = 0; filled < 1 << scopes.length; filled++) {
            for (int rows = 1; rows <= 8; rows++) {
                withRows(scopes, filled, rows, phase);
            }
        }
    }

    private static void withRows(int[] scopes, int filled, int rows, int phase) {
        AcyclicJoin join = Queries.of(scopes);
        for (int atom = 0; atom < scopes.length; atom++) {
            for (int row = 0; row < (filled >> atom & 1) * rows; row++) {
                join.addRow(atom, row & 3, row >> 1 & 3, row & 1);
            }
        }
        Due.same("compile with " + rows + " rows in the atoms " + filled, join.compile(), phase);
        join.reopen();
        join.dropRow(0, 0, 0, 0);
        Due.same("compile after dropRow", join.compile(), phase);
    }
}
