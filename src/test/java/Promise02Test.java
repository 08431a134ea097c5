import java.util.List;

/** Promise 2: addAtom. */
public final class Promise02Test {
    public static void main(String[] args) {
        Sentences.of("Promise 2: addAtom")
                .holds("addAtom(scope), conditions in order:", Promise02Test::order)
                .holds("Not in LOADING: WRONG_PHASE.", Promise02Test::wrongPhase)
                .holds("scope is below 1, or is at least (1 << V), or has more than three bits set: BAD.",
                        Promise02Test::bad)
                .holds("The greatest number of atoms is reached: FULL.", Promise02Test::full)
                .holds("Otherwise an atom with this scope and without rows is added, and its index is answered:"
                        + " 0 for the first atom, then 1, 2, and so on.", Promise02Test::added)
                .holds("Several atoms may have the same scope; each has its own rows.", Promise02Test::sameScope)
                .holds("Atoms are never removed and keep their index and scope.", Promise02Test::neverRemoved)
                .holds("The other atoms, their rows and the phase do not change.", Promise02Test::othersStay)
                .end();
        Due.end();
    }

    /** All the atoms that there may be, so the third condition holds from now on. */
    private static AcyclicJoin filled() {
        AcyclicJoin join = Queries.five();
        join.addAtom(1);
        join.addAtom(8);
        return join;
    }

    private static void order() {
        for (int scope : new int[] {0, -1, 15, 16, Integer.MIN_VALUE, Integer.MAX_VALUE}) {
            AcyclicJoin join = filled();
            Due.same("BAD before FULL: addAtom(" + scope + ")", join.addAtom(scope), AcyclicJoin.BAD);
            join.compile();
            Due.same("WRONG_PHASE before both: addAtom(" + scope + ")", join.addAtom(scope), AcyclicJoin.WRONG_PHASE);
            AcyclicJoin ready = Queries.at(1, 0);
            Due.same("WRONG_PHASE before BAD: addAtom(" + scope + ")", ready.addAtom(scope), AcyclicJoin.WRONG_PHASE);
            AcyclicJoin cyclic = Queries.compiled(3, 6, 5);
            Due.same("WRONG_PHASE before BAD: addAtom(" + scope + ")", cyclic.addAtom(scope), AcyclicJoin.WRONG_PHASE);
        }
        AcyclicJoin join = Queries.afterCompile(filled());
        Due.same("WRONG_PHASE before FULL", join.addAtom(1), AcyclicJoin.WRONG_PHASE);
    }

    private static void wrongPhase() {
        List<Queries.State> wrong = Queries.join(Queries.READY, Queries.CYCLIC);
        for (int scope : new int[] {1, 3, 7, 8, 0, 99}) {
            Refused.inWrongPhase("addAtom(" + scope + ")", wrong, Queries.LOADING, join -> join.addAtom(scope));
        }
    }

    private static boolean isBad(int v, int scope) {
        return scope < 1 || scope >= (1 << v) || Integer.bitCount(scope) > 3;
    }

    private static void bad() {
        for (int v = 3; v <= 6; v++) {
            for (int scope = -130; scope <= 260; scope++) {
                looksAt(v, scope);
            }
            for (int scope : Queries.WILD) {
                looksAt(v, scope);
            }
            for (int bit = 0; bit < 32; bit++) {
                looksAt(v, 1 << bit);
                looksAt(v, 1 << bit | 1);
                looksAt(v, ~(1 << bit));
                looksAt(v, -(1 << bit));
            }
        }
        for (int scope : new int[] {0, -1, 15, 16, 17, 1 << 30, Integer.MIN_VALUE, Integer.MIN_VALUE | 3}) {
            Story.unchanged("addAtom(" + scope + ")", Queries::five, join -> join.addAtom(scope));
        }
    }

    private static void looksAt(int v, int scope) {
        AcyclicJoin join = new AcyclicJoin(v, 2, 3, 2);
        int due = isBad(v, scope) ? AcyclicJoin.BAD : 0;
        Due.same("V " + v + ": addAtom(" + scope + ")", join.addAtom(scope), due);
        Due.same("V " + v + ": the next index", join.addAtom(7), due == 0 ? 1 : 0);
    }

    private static void full() {
        for (int most = 3; most <= 6; most++) {
            AcyclicJoin join = new AcyclicJoin(3, 2, most, 2);
            for (int atom = 0; atom < most; atom++) {
                Due.same("addAtom below the limit " + most, join.addAtom(1 + atom), atom);
            }
            for (int scope = 1; scope < 8; scope++) {
                Due.same("addAtom at the limit " + most, join.addAtom(scope), AcyclicJoin.FULL);
            }
            Due.same("no atom beyond the limit", join.scope(most), AcyclicJoin.BAD);
            join.compile();
            join.reopen();
            Due.same("addAtom at the limit after reopen", join.addAtom(1), AcyclicJoin.FULL);
        }
        Story.unchanged("addAtom at the limit", Promise02Test::filled, join -> join.addAtom(6));
    }

    private static void added() {
        AcyclicJoin join = new AcyclicJoin(6, 4, 6, 8);
        int[] scopes = {56, 1, 32, 38, 3, 21};
        for (int atom = 0; atom < scopes.length; atom++) {
            Due.same("a refused addAtom takes no index", join.addAtom(63), AcyclicJoin.BAD);
            Due.same("addAtom(" + scopes[atom] + ")", join.addAtom(scopes[atom]), atom);
            Due.same("scope(" + atom + ")", join.scope(atom), scopes[atom]);
            Due.same("no atom behind it", join.scope(atom + 1), AcyclicJoin.BAD);
            for (int row = 0; row < 64; row++) {
                Due.same("a row of a new atom", join.rowState(atom, row & 3, row >> 2 & 3, row >> 4),
                        AcyclicJoin.ABSENT);
            }
        }
        AcyclicJoin later = Queries.reopened(Queries.at(3, 6));
        Due.same("addAtom after reopen", later.addAtom(12), 2);
        Due.same("scope(2)", later.scope(2), 12);
        later.compile();
        Due.same("an atom without rows leaves no answer", later.count(), 0);
    }

    private static void sameScope() {
        AcyclicJoin join = new AcyclicJoin(4, 4, 6, 2);
        for (int atom = 0; atom < 6; atom++) {
            Due.same("addAtom of the same scope", join.addAtom(9), atom);
        }
        for (int atom = 0; atom < 6; atom++) {
            Due.same("addRow to atom " + atom, join.addRow(atom, 1, 2, 0), AcyclicJoin.OK);
            for (int later = atom + 1; later < 6; later++) {
                Due.same("the row in a later atom", join.rowState(later, 1, 2, 0), AcyclicJoin.ABSENT);
            }
        }
        Due.same("a row of atom 3 alone", join.addRow(3, 0, 0, 0), AcyclicJoin.OK);
        Due.same("atom 3 is full", join.addRow(3, 1, 1, 0), AcyclicJoin.FULL);
        Due.same("atom 4 is not full", join.addRow(4, 1, 1, 0), AcyclicJoin.OK);
        Due.same("dropRow from atom 3", join.dropRow(3, 1, 2, 0), AcyclicJoin.OK);
        Due.same("the row in atom 2 stays", join.rowState(2, 1, 2, 0), AcyclicJoin.STORED);
        Due.same("the row in atom 4 stays", join.rowState(4, 1, 2, 0), AcyclicJoin.STORED);
    }

    private static void neverRemoved() {
        AcyclicJoin join = Queries.of(3, 6, 3, 32, 56, 1);
        int[] scopes = {3, 6, 3, 32, 56, 1};
        for (int round = 0; round < 2; round++) {
            join.addRow(1, 2, 2, 0);
            join.dropRow(1, 2, 2, 0);
            keepsScopes("after dropRow", join, scopes);
            Due.same("compile", join.compile(), AcyclicJoin.READY);
            keepsScopes("in READY", join, scopes);
            join.next(0);
            join.reopen();
            keepsScopes("after reopen", join, scopes);
            join.addAtom(5);
            keepsScopes("after a refused addAtom", join, scopes);
        }
        AcyclicJoin cyclic = Queries.compiled(3, 6, 5);
        keepsScopes("in CYCLIC", cyclic, new int[] {3, 6, 5});
        cyclic.reopen();
        keepsScopes("after CYCLIC", cyclic, new int[] {3, 6, 5});
    }

    private static void keepsScopes(String when, AcyclicJoin join, int[] scopes) {
        for (int atom = 0; atom < scopes.length; atom++) {
            Due.same("scope(" + atom + ") " + when, join.scope(atom), scopes[atom]);
        }
        Due.same("no atom behind the last " + when, join.scope(scopes.length), AcyclicJoin.BAD);
    }

    private static void othersStay() {
        AcyclicJoin join = Queries.five();
        List<Integer> first = Story.atom(join, 0);
        List<Integer> second = Story.atom(join, 1);
        Due.same("addAtom", join.addAtom(3), 2);
        Due.same("phase", join.phase(), AcyclicJoin.LOADING);
        Due.yes("atom 0 as before", Story.atom(join, 0).equals(first));
        Due.yes("atom 1 as before", Story.atom(join, 1).equals(second));
        Due.same("atom 0 is still full", join.addRow(0, 1, 0, 0), AcyclicJoin.FULL);
        Due.same("atom 1 has room for one", join.addRow(1, 0, 0, 0), AcyclicJoin.OK);
        Due.same("and for no more", join.addRow(1, 3, 0, 0), AcyclicJoin.FULL);
    }
}
