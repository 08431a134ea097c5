/** Promise 10: residueOf. */
public final class Promise10Test {
    public static void main(String[] args) {
        Sentences.of("Promise 10: residueOf")
                .holds("residueOf(atom), conditions in order:", Promise10Test::order)
                .holds("In LOADING: WRONG_PHASE.", Promise10Test::wrongPhase)
                .holds("Bad atom: BAD.", Promise10Test::badAtom)
                .holds("Otherwise, for each atom b, let P(b) be the part of its scope that lies in R.",
                        Promise10Test::partInTheResidue)
                .holds("The answer is 0 if at least one of these holds:", Promise10Test::severalHold)
                .holds("P(atom) is empty;", Promise10Test::emptyPart)
                .holds("some atom b has P(b) containing P(atom) and not equal to it;", Promise10Test::contained)
                .holds("some atom b with an index below atom has P(b) equal to P(atom).",
                        Promise10Test::equalToAnEarlier)
                .holds("Else the answer is the mask P(atom).", Promise10Test::mask)
                .holds("In READY the answer for an atom that is not bad is always 0.", Promise10Test::zeroInReady)
                .holds("Nothing changes.", Promise10Test::nothingChanges)
                .end();
        Due.end();
    }

    private static void isDue(AcyclicJoin join, int... due) {
        for (int atom = 0; atom < due.length; atom++) {
            Due.same("residueOf(" + atom + ") of " + due.length, join.residueOf(atom), due[atom]);
        }
        Due.same("no atom behind the last", join.residueOf(due.length), AcyclicJoin.BAD);
    }

    private static void order() {
        AcyclicJoin join = Queries.ring();
        for (int atom : new int[] {Integer.MIN_VALUE, -1, 3, 6, Integer.MAX_VALUE}) {
            Due.same("WRONG_PHASE before BAD", join.residueOf(atom), AcyclicJoin.WRONG_PHASE);
        }
        Due.same("WRONG_PHASE before BAD without atoms", Queries.fresh().residueOf(0), AcyclicJoin.WRONG_PHASE);
    }

    private static void wrongPhase() {
        for (int atom = 0; atom < 2; atom++) {
            int asked = atom;
            Refused.inWrongPhase("residueOf(" + atom + ")", Queries.LOADING,
                    Queries.join(Queries.READY, Queries.CYCLIC), join -> join.residueOf(asked));
        }
    }

    private static void badAtom() {
        Refused.badAtoms("residueOf", true, AcyclicJoin::residueOf);
        AcyclicJoin cyclic = Queries.compiled(3, 6, 5);
        for (int atom : Queries.WILD) {
            Due.yes("CYCLIC: residueOf(" + atom + ") is BAD",
                    Queries.outside(atom, 3) == (cyclic.residueOf(atom) == AcyclicJoin.BAD));
        }
    }

    /** The residue is {0, 2, 4}, and each scope has a variable outside it. */
    private static void partInTheResidue() {
        AcyclicJoin wide = Queries.compiled(7, 28, 49);
        Due.same("residue", wide.residue(), 21);
        isDue(wide, 5, 20, 17);
    }

    private static void severalHold() {
        // One alone: within a later part, and equal to an earlier one.
        isDue(Queries.compiled(4, 3, 6, 5, 3), 0, 3, 6, 5, 0);
        // Atom 3 has a part within that of atom 0, and atom 4 has the same one again.
        isDue(Queries.compiled(3, 6, 5, 9, 1), 3, 6, 5, 0, 0);
        // The parts of the atoms 3 and 4 are both empty, and so equal, and contained in every other.
        isDue(Queries.compiled(3, 6, 5, 24, 48), 3, 6, 5, 0, 0);
    }

    private static void emptyPart() {
        isDue(Queries.compiled(24, 3, 6, 5), 0, 3, 6, 5);
        isDue(Queries.compiled(3, 32, 6, 8, 5, 24), 3, 0, 6, 0, 5, 0);
    }

    private static void contained() {
        // In an atom before it, and in an atom behind it.
        isDue(Queries.compiled(3, 6, 5, 1), 3, 6, 5, 0);
        isDue(Queries.compiled(4, 3, 6, 5), 0, 3, 6, 5);
        isDue(Queries.compiled(12, 3, 6, 5), 0, 3, 6, 5);
        // The scope is contained in no other; the part is.
        isDue(Queries.compiled(38, 7, 11, 13, 14), 0, 7, 11, 13, 14);
        // Two variables of the three of an atom.
        isDue(Queries.compiled(6, 7, 11, 13), 0, 7, 11, 13);
        isDue(Queries.compiled(5, 11, 14, 13), 0, 11, 14, 13);
    }

    private static void equalToAnEarlier() {
        isDue(Queries.compiled(3, 3, 6, 5, 5, 6), 3, 0, 6, 5, 0, 0);
        // Equal parts of scopes that are not equal.
        isDue(Queries.compiled(7, 28, 49, 5, 20), 5, 20, 17, 0, 0);
        isDue(Queries.compiled(5, 7, 28, 49), 5, 0, 20, 17);
    }

    private static void mask() {
        isDue(Queries.compiled(3, 6, 5), 3, 6, 5);
        isDue(Queries.compiled(3, 6, 12, 24, 48, 33), 3, 6, 12, 24, 48, 33);
        isDue(Queries.compiled(7, 11, 13, 14), 7, 11, 13, 14);
        // An equal part behind it takes nothing from the first.
        isDue(Queries.compiled(3, 6, 5, 3, 3), 3, 6, 5, 0, 0);
    }

    private static void zeroInReady() {
        for (Queries.State state : Queries.READY) {
            AcyclicJoin join = state.make();
            Due.same(state.name() + ": residueOf(0)", join.residueOf(0), 0);
            Due.same(state.name() + ": residueOf(1)", join.residueOf(1), 0);
        }
        isDue(Queries.compiled(3, 6, 5, 7, 32, 56), 0, 0, 0, 0, 0, 0);
        AcyclicJoin join = Queries.compiled(3, 6, 5);
        join.reopen();
        join.addAtom(7);
        join.compile();
        isDue(join, 0, 0, 0, 0);
    }

    private static void nothingChanges() {
        for (Queries.State state : Queries.ALL) {
            for (int atom = -1; atom <= 4; atom++) {
                int asked = atom;
                Story.unchanged(state.name() + ": residueOf(" + atom + ")", state.maker(),
                        join -> join.residueOf(asked));
            }
        }
    }
}
