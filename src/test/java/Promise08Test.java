/** Promise 8: scope. */
public final class Promise08Test {
    public static void main(String[] args) {
        Sentences.of("Promise 8: scope")
                .holds("scope(atom), in any phase: Bad atom: BAD.", Promise08Test::badAtom)
                .holds("Otherwise the scope of the atom is answered, as the mask given when it was added.",
                        Promise08Test::answers)
                .holds("Nothing changes.", Promise08Test::nothingChanges)
                .end();
        Due.end();
    }

    private static void badAtom() {
        Refused.badAtoms("scope", false, AcyclicJoin::scope);
        Refused.badAtoms("scope", true, AcyclicJoin::scope);
        for (Queries.State state : Queries.ALL) {
            int answer = state.make().scope(0);
            Due.yes(state.name() + ": scope(0) is not in the wrong phase", answer != AcyclicJoin.WRONG_PHASE);
        }
        AcyclicJoin cyclic = Queries.compiled(3, 6, 5);
        for (int atom : Queries.WILD) {
            Due.yes("CYCLIC: scope(" + atom + ") is BAD",
                    Queries.outside(atom, 3) == (cyclic.scope(atom) == AcyclicJoin.BAD));
        }
    }

    private static void answers() {
        for (int v = 3; v <= 6; v++) {
            for (int scope = 1; scope < 1 << v; scope++) {
                if (Integer.bitCount(scope) <= 3) {
                    AcyclicJoin join = new AcyclicJoin(v, 4, 6, 8);
                    join.addAtom(1);
                    join.addAtom(scope);
                    join.addAtom(2);
                    Due.same("scope in LOADING", join.scope(1), scope);
                    join.compile();
                    Due.same("scope in READY", join.scope(1), scope);
                    Due.same("scope of the atom before", join.scope(0), 1);
                    Due.same("scope of the atom behind", join.scope(2), 2);
                }
            }
        }
        AcyclicJoin ring = Queries.afterCompile(Queries.ring());
        Due.same("phase", ring.phase(), AcyclicJoin.CYCLIC);
        Due.same("scope in CYCLIC", ring.scope(0), 3);
        Due.same("scope in CYCLIC", ring.scope(1), 6);
        Due.same("scope in CYCLIC", ring.scope(2), 5);
    }

    private static void nothingChanges() {
        for (Queries.State state : Queries.ALL) {
            for (int atom = -1; atom <= 6; atom++) {
                int asked = atom;
                Story.unchanged(state.name() + ": scope(" + atom + ")", state.maker(), join -> join.scope(asked));
            }
        }
    }
}
