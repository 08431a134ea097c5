/** Promises 5, 6, 7, 9 and 10: compile, reopen, phase, residue and residueOf. */
public final class CompileTest {
    private static final int MIN = Integer.MIN_VALUE;
    private static final int MAX = Integer.MAX_VALUE;

    public static void main(String[] args) {
        compileWithoutAtomsIsEmpty();
        compileWantsLoading();
        rowsHaveNoInfluenceOnThePhase();
        compilePutsBothCursorsAtTheStart();
        compileKeepsAtomsAndRows();
        reopenWantsACompiledQuery();
        reopenKeepsEverything();
        reopenedQueryCanChangeItsPhase();
        reopenedQueryForgetsOldAnswers();
        residueWantsACompiledQuery();
        knownResidues();
        residueOfRefusesInOrder();
        residueOfKnownQueries();
        everySmallQueryHasTheResidueOfTheDocument();
        Due.end();
    }

    private static AcyclicJoin loaded(int... scopes) {
        AcyclicJoin join = new AcyclicJoin(6, 4, 6, 8);
        for (int scope : scopes) {
            join.addAtom(scope);
        }
        return join;
    }

    private static AcyclicJoin compiled(int... scopes) {
        AcyclicJoin join = loaded(scopes);
        join.compile();
        return join;
    }

    private static void compileWithoutAtomsIsEmpty() {
        AcyclicJoin join = loaded();
        Due.same("compile without atoms", join.compile(), AcyclicJoin.EMPTY);
        Due.same("phase", join.phase(), AcyclicJoin.LOADING);
        Due.same("reopen", join.reopen(), AcyclicJoin.WRONG_PHASE);
        Due.same("addAtom", join.addAtom(1), 0);
        Due.same("compile with an atom", join.compile(), AcyclicJoin.READY);
    }

    private static void compileWantsLoading() {
        AcyclicJoin ready = compiled(1);
        ready.next(0);
        Due.same("compile in READY", ready.compile(), AcyclicJoin.WRONG_PHASE);
        Due.same("phase", ready.phase(), AcyclicJoin.READY);
        Due.same("cursor stays", ready.value(0, 0), AcyclicJoin.AT_END);
        AcyclicJoin cyclic = compiled(3, 6, 5);
        Due.same("compile in CYCLIC", cyclic.compile(), AcyclicJoin.WRONG_PHASE);
        Due.same("phase", cyclic.phase(), AcyclicJoin.CYCLIC);
    }

    private static void rowsHaveNoInfluenceOnThePhase() {
        AcyclicJoin ring = loaded(3, 6, 5);
        Due.same("ring without rows", ring.compile(), AcyclicJoin.CYCLIC);
        ring.reopen();
        for (int atom = 0; atom < 3; atom++) {
            ring.addRow(atom, 1, 1, 0);
        }
        Due.same("ring with rows", ring.compile(), AcyclicJoin.CYCLIC);
        AcyclicJoin path = loaded(3, 6, 12);
        Due.same("path without rows", path.compile(), AcyclicJoin.READY);
        path.reopen();
        for (int atom = 0; atom < 3; atom++) {
            path.addRow(atom, 1, 1, 0);
        }
        Due.same("path with rows", path.compile(), AcyclicJoin.READY);
        Due.same("phase", path.phase(), AcyclicJoin.READY);
    }

    private static void compilePutsBothCursorsAtTheStart() {
        AcyclicJoin join = loaded(1);
        join.addRow(0, 1, 0, 0);
        join.addRow(0, 2, 0, 0);
        join.compile();
        join.next(0);
        join.next(1);
        join.next(1);
        join.next(1);
        Due.same("cursor 0 on an answer", join.value(0, 0), 1);
        Due.same("cursor 1 at the end", join.value(1, 0), AcyclicJoin.AT_END);
        join.reopen();
        join.compile();
        Due.same("cursor 0 after compile", join.value(0, 0), AcyclicJoin.AT_START);
        Due.same("cursor 1 after compile", join.value(1, 0), AcyclicJoin.AT_START);
        join.next(1);
        Due.same("cursor 1 on the first", join.value(1, 0), 1);
    }

    private static void compileKeepsAtomsAndRows() {
        AcyclicJoin join = loaded(3, 6, 5);
        join.addRow(1, 2, 3, 0);
        join.compile();
        Due.same("scope(0)", join.scope(0), 3);
        Due.same("scope(1)", join.scope(1), 6);
        Due.same("scope(2)", join.scope(2), 5);
        Due.same("scope(3)", join.scope(3), AcyclicJoin.BAD);
        Due.same("row", join.rowState(1, 2, 3, 0), AcyclicJoin.STORED);
        Due.same("no row", join.rowState(0, 2, 3, 0), AcyclicJoin.ABSENT);
    }

    private static void reopenWantsACompiledQuery() {
        AcyclicJoin join = loaded();
        Due.same("reopen of a fresh object", join.reopen(), AcyclicJoin.WRONG_PHASE);
        join.addAtom(1);
        Due.same("reopen in LOADING", join.reopen(), AcyclicJoin.WRONG_PHASE);
        Due.same("phase", join.phase(), AcyclicJoin.LOADING);
        join.compile();
        Due.same("reopen in READY", join.reopen(), AcyclicJoin.OK);
        Due.same("phase", join.phase(), AcyclicJoin.LOADING);
        Due.same("reopen again", join.reopen(), AcyclicJoin.WRONG_PHASE);
        AcyclicJoin cyclic = compiled(3, 6, 5);
        Due.same("reopen in CYCLIC", cyclic.reopen(), AcyclicJoin.OK);
        Due.same("phase", cyclic.phase(), AcyclicJoin.LOADING);
    }

    private static void reopenKeepsEverything() {
        AcyclicJoin join = loaded(3, 6);
        join.addRow(0, 1, 1, 0);
        join.addRow(0, 2, 2, 0);
        join.addRow(1, 1, 3, 0);
        join.compile();
        Due.same("live row", join.rowState(0, 1, 1, 0), AcyclicJoin.LIVE);
        Due.same("dangling row", join.rowState(0, 2, 2, 0), AcyclicJoin.DANGLING);
        join.reopen();
        Due.same("live row after reopen", join.rowState(0, 1, 1, 0), AcyclicJoin.STORED);
        Due.same("dangling row after reopen", join.rowState(0, 2, 2, 0), AcyclicJoin.STORED);
        Due.same("dangling row is a duplicate", join.addRow(0, 2, 2, 0), AcyclicJoin.DUPLICATE);
        Due.same("scope(1)", join.scope(1), 6);
        Due.same("a row makes it live", join.addRow(1, 2, 0, 0), AcyclicJoin.OK);
        join.compile();
        Due.same("dangling row is live now", join.rowState(0, 2, 2, 0), AcyclicJoin.LIVE);
        Due.same("count", join.count(), 2);
    }

    private static void reopenedQueryCanChangeItsPhase() {
        AcyclicJoin join = compiled(3, 6);
        Due.same("phase of a path", join.phase(), AcyclicJoin.READY);
        join.reopen();
        Due.same("third side", join.addAtom(5), 2);
        Due.same("compile of a ring", join.compile(), AcyclicJoin.CYCLIC);
        Due.same("residue of a ring", join.residue(), 7);
        join.reopen();
        Due.same("lid", join.addAtom(7), 3);
        Due.same("compile of a ring with a lid", join.compile(), AcyclicJoin.READY);
        Due.same("residue of a ring with a lid", join.residue(), 0);
    }

    private static void reopenedQueryForgetsOldAnswers() {
        AcyclicJoin join = loaded(1, 1);
        join.addRow(0, 0, 0, 0);
        join.addRow(0, 2, 0, 0);
        join.addRow(1, 0, 0, 0);
        join.addRow(1, 2, 0, 0);
        join.compile();
        Due.same("live(0)", join.live(0), 2);
        Due.same("count", join.count(), 2);
        join.reopen();
        join.dropRow(1, 0, 0, 0);
        join.compile();
        Due.same("live(0) after a drop", join.live(0), 1);
        Due.same("count after a drop", join.count(), 1);
        Due.same("row without partner", join.rowState(0, 0, 0, 0), AcyclicJoin.DANGLING);
        Due.same("dropped row", join.rowState(1, 0, 0, 0), AcyclicJoin.ABSENT);
        Due.same("next", join.next(0), AcyclicJoin.MOVED);
        Due.same("value", join.value(0, 0), 2);
        join.reopen();
        join.addAtom(2);
        join.compile();
        Due.same("count with an atom without rows", join.count(), 0);
        Due.same("live(0) with an atom without rows", join.live(0), 0);
    }

    private static void residueWantsACompiledQuery() {
        AcyclicJoin join = loaded();
        Due.same("residue of a fresh object", join.residue(), AcyclicJoin.WRONG_PHASE);
        join.addAtom(1);
        Due.same("residue in LOADING", join.residue(), AcyclicJoin.WRONG_PHASE);
        join.compile();
        Due.same("residue in READY", join.residue(), 0);
        join.reopen();
        Due.same("residue after reopen", join.residue(), AcyclicJoin.WRONG_PHASE);
    }

    private static void knownResidue(String name, int residue, int... scopes) {
        AcyclicJoin join = loaded(scopes);
        int phase = residue == 0 ? AcyclicJoin.READY : AcyclicJoin.CYCLIC;
        Due.same("compile of " + name, join.compile(), phase);
        Due.same("phase of " + name, join.phase(), phase);
        Due.same("residue of " + name, join.residue(), residue);
        Due.same("phase of " + name, join.phase(), phase);
    }

    private static void knownResidues() {
        knownResidue("one atom", 0, 7);
        knownResidue("two apart", 0, 7, 56);
        knownResidue("a ring of three", 7, 3, 6, 5);
        knownResidue("a ring of three with a lid", 0, 3, 6, 5, 7);
        knownResidue("a ring of four", 15, 3, 6, 12, 9);
        knownResidue("a ring of six", 63, 3, 6, 12, 24, 48, 33);
        knownResidue("a ring of three with a tail", 7, 3, 6, 5, 12, 24);
        knownResidue("a tail at the low end", 56, 24, 48, 40, 12, 6, 3);
        knownResidue("two rings", 63, 3, 6, 5, 24, 48, 40);
        knownResidue("a path against the order of removal", 0, 33, 34, 18, 20, 12);
        knownResidue("a ring of three wide atoms", 21, 7, 28, 49);
        knownResidue("a ring of three wide atoms with a middle", 0, 7, 28, 49, 21);
        knownResidue("three of the four faces of a solid", 15, 7, 11, 13);
        knownResidue("a ring with a doubled side", 7, 3, 3, 6, 5);
        knownResidue("four faces of a solid", 15, 7, 11, 13, 14);
    }

    private static void residueOfRefusesInOrder() {
        AcyclicJoin join = loaded(3, 6, 5);
        Due.same("residueOf in LOADING", join.residueOf(0), AcyclicJoin.WRONG_PHASE);
        Due.same("bad residueOf in LOADING", join.residueOf(-1), AcyclicJoin.WRONG_PHASE);
        join.compile();
        for (int atom : new int[] {MIN, -1, 3, 6, MAX}) {
            Due.same("residueOf(" + atom + ")", join.residueOf(atom), AcyclicJoin.BAD);
        }
        AcyclicJoin ready = compiled(3, 6);
        Due.same("residueOf(0) in READY", ready.residueOf(0), 0);
        Due.same("residueOf(1) in READY", ready.residueOf(1), 0);
        Due.same("residueOf(2) in READY", ready.residueOf(2), AcyclicJoin.BAD);
    }

    private static void residueOfKnownQueries() {
        AcyclicJoin tail = compiled(24, 3, 6, 5, 12, 3);
        Due.same("outside the residue", tail.residueOf(0), 0);
        Due.same("first side", tail.residueOf(1), 3);
        Due.same("second side", tail.residueOf(2), 6);
        Due.same("third side", tail.residueOf(3), 5);
        Due.same("contained in a side", tail.residueOf(4), 0);
        Due.same("equal to an earlier side", tail.residueOf(5), 0);
        AcyclicJoin wide = compiled(4, 7, 28, 49, 20);
        Due.same("contained in a later one", wide.residueOf(0), 0);
        Due.same("part of a wide atom", wide.residueOf(1), 5);
        Due.same("part of a wide atom", wide.residueOf(2), 20);
        Due.same("part of a wide atom", wide.residueOf(3), 17);
        Due.same("equal part, other scope", wide.residueOf(4), 0);
        Due.same("phase", wide.phase(), AcyclicJoin.CYCLIC);
    }

    /** Goes through every set of up to six scopes over four variables. */
    private static void everySmallQueryHasTheResidueOfTheDocument() {
        int[] all = new int[14];
        int n = 0;
        for (int scope = 1; scope < 15; scope++) {
            all[n++] = scope;
        }
        for (int choice = 1; choice < (1 << 14); choice++) {
            if (Integer.bitCount(choice) > 6) {
                continue;
            }
            AcyclicJoin join = new AcyclicJoin(4, 2, 6, 2);
            Model model = new Model(4, 2, 6, 2);
            for (int i = 0; i < 14; i++) {
                if ((choice >> i & 1) != 0) {
                    join.addAtom(all[i]);
                    model.addAtom(all[i]);
                }
            }
            Due.same("compile of choice " + choice, join.compile(), model.compile());
            Due.same("residue of choice " + choice, join.residue(), model.residue());
            for (int atom = 0; atom < Integer.bitCount(choice); atom++) {
                Due.same("residueOf(" + atom + ") of choice " + choice, join.residueOf(atom), model.residueOf(atom));
            }
        }
    }
}
