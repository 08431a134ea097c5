/** Promises 1 to 4 and 8: the constructor, addAtom, addRow, dropRow and scope. */
public final class LoadingTest {
    private static final int MIN = Integer.MIN_VALUE;
    private static final int MAX = Integer.MAX_VALUE;
    private static final int[] WILD = {MIN, MIN + 1, -1000, -1, 0, 1, 2, 3, 4, 5, 6, 7, 8, 9, 1000, MAX - 1, MAX};

    public static void main(String[] args) {
        variablesAreClamped();
        valuesAreClamped();
        atomsAreClamped();
        rowsAreClamped();
        freshObjectIsLoading();
        atomsGetAscendingIndexes();
        badScopesAreRefused();
        fullComesAfterBad();
        addAtomWantsLoading();
        atomsOfOneScopeKeepTheirOwnRows();
        addRowRefusesBadAtoms();
        addRowLooksAtUsedValuesOnly();
        addRowTellsDuplicateBeforeFull();
        addRowWantsLoading();
        rowsAreWrittenInAscendingOrder();
        dropRowRemovesOneRow();
        dropRowRefusesBadArguments();
        dropRowWantsLoading();
        scopeAnswersInEveryPhase();
        Due.end();
    }

    private static int clamped(int given, int least, int greatest) {
        return Math.max(least, Math.min(greatest, given));
    }

    private static void variablesAreClamped() {
        for (int given : WILD) {
            int v = clamped(given, 3, 6);
            AcyclicJoin join = new AcyclicJoin(given, 2, 6, 2);
            Due.same("V of " + given + ": addAtom(top)", join.addAtom(1 << (v - 1)), 0);
            Due.same("V of " + given + ": addAtom(above)", join.addAtom(1 << v), AcyclicJoin.BAD);
            join.addRow(0, 0, 0, 0);
            join.compile();
            Due.same("V of " + given + ": next", join.next(0), AcyclicJoin.MOVED);
            Due.same("V of " + given + ": value(top)", join.value(0, v - 1), 0);
            Due.same("V of " + given + ": value(above)", join.value(0, v), AcyclicJoin.BAD);
        }
    }

    private static void valuesAreClamped() {
        for (int given : WILD) {
            int d = clamped(given, 2, 4);
            AcyclicJoin join = new AcyclicJoin(3, given, 3, 8);
            join.addAtom(1);
            for (int value = 0; value < d; value++) {
                Due.same("D of " + given + ": addRow " + value, join.addRow(0, value, 0, 0), AcyclicJoin.OK);
            }
            Due.same("D of " + given + ": addRow D", join.addRow(0, d, 0, 0), AcyclicJoin.BAD);
        }
    }

    private static void atomsAreClamped() {
        for (int given : WILD) {
            int most = clamped(given, 3, 6);
            AcyclicJoin join = new AcyclicJoin(6, 4, given, 8);
            for (int atom = 0; atom < most; atom++) {
                Due.same("atoms of " + given + ": addAtom", join.addAtom(1), atom);
            }
            Due.same("atoms of " + given + ": addAtom", join.addAtom(1), AcyclicJoin.FULL);
        }
    }

    private static void rowsAreClamped() {
        for (int given : WILD) {
            int most = clamped(given, 2, 8);
            AcyclicJoin join = new AcyclicJoin(3, 4, 3, given);
            join.addAtom(3);
            for (int row = 0; row < most; row++) {
                Due.same("rows of " + given + ": addRow", join.addRow(0, row / 4, row % 4, 0), AcyclicJoin.OK);
            }
            Due.same("rows of " + given + ": addRow", join.addRow(0, 3, 3, 0), AcyclicJoin.FULL);
        }
    }

    private static void freshObjectIsLoading() {
        AcyclicJoin join = new AcyclicJoin(3, 2, 3, 2);
        Due.same("fresh phase", join.phase(), AcyclicJoin.LOADING);
        Due.same("fresh scope(0)", join.scope(0), AcyclicJoin.BAD);
        Due.same("fresh compile", join.compile(), AcyclicJoin.EMPTY);
        Due.same("fresh rowState", join.rowState(0, 0, 0, 0), AcyclicJoin.BAD);
        Due.same("fresh addRow", join.addRow(0, 0, 0, 0), AcyclicJoin.BAD);
        Due.same("fresh dropRow", join.dropRow(0, 0, 0, 0), AcyclicJoin.BAD);
        join.addAtom(1);
        join.compile();
        Due.same("first cursor at the start", join.value(0, 0), AcyclicJoin.AT_START);
        Due.same("second cursor at the start", join.value(1, 0), AcyclicJoin.AT_START);
    }

    private static void atomsGetAscendingIndexes() {
        AcyclicJoin join = new AcyclicJoin(6, 4, 6, 8);
        int[] scopes = {56, 1, 32, 38, 1, 21};
        for (int atom = 0; atom < scopes.length; atom++) {
            Due.same("addAtom(" + scopes[atom] + ")", join.addAtom(scopes[atom]), atom);
            Due.same("phase after addAtom", join.phase(), AcyclicJoin.LOADING);
            for (int older = 0; older <= atom; older++) {
                Due.same("scope(" + older + ")", join.scope(older), scopes[older]);
            }
            Due.same("scope beyond", join.scope(atom + 1), AcyclicJoin.BAD);
        }
    }

    private static void badScopesAreRefused() {
        for (int v = 3; v <= 6; v++) {
            for (int scope = -70; scope <= 200; scope++) {
                boolean bad = scope < 1 || scope >= (1 << v) || Integer.bitCount(scope) > 3;
                AcyclicJoin join = new AcyclicJoin(v, 4, 6, 8);
                Due.same("V=" + v + " addAtom(" + scope + ")", join.addAtom(scope), bad ? AcyclicJoin.BAD : 0);
                Due.same("V=" + v + " scope(0) of " + scope, join.scope(0), bad ? AcyclicJoin.BAD : scope);
            }
        }
        for (int scope : new int[] {MIN, MIN + 1, MIN | 3, MAX, 1 << 30, (1 << 30) | 1, 0x10001, 1 << 16}) {
            AcyclicJoin join = new AcyclicJoin(6, 4, 6, 8);
            Due.same("addAtom(" + scope + ")", join.addAtom(scope), AcyclicJoin.BAD);
        }
    }

    private static void fullComesAfterBad() {
        AcyclicJoin join = new AcyclicJoin(4, 2, 3, 2);
        join.addAtom(1);
        join.addAtom(2);
        join.addAtom(4);
        Due.same("addAtom when full", join.addAtom(8), AcyclicJoin.FULL);
        Due.same("addAtom bad when full", join.addAtom(15), AcyclicJoin.BAD);
        Due.same("addAtom bad when full", join.addAtom(0), AcyclicJoin.BAD);
        Due.same("no atom came", join.scope(3), AcyclicJoin.BAD);
    }

    private static void addAtomWantsLoading() {
        for (AcyclicJoin join : new AcyclicJoin[] {ready(), cyclic()}) {
            int phase = join.phase();
            Due.same("addAtom in phase " + phase, join.addAtom(1), AcyclicJoin.WRONG_PHASE);
            Due.same("bad addAtom in phase " + phase, join.addAtom(0), AcyclicJoin.WRONG_PHASE);
            Due.same("no atom came", join.scope(3), AcyclicJoin.BAD);
            Due.same("phase", join.phase(), phase);
            join.reopen();
            Due.same("addAtom after reopen", join.addAtom(1), 3);
        }
    }

    private static void atomsOfOneScopeKeepTheirOwnRows() {
        AcyclicJoin join = new AcyclicJoin(3, 4, 3, 2);
        join.addAtom(5);
        join.addAtom(5);
        Due.same("addRow to 0", join.addRow(0, 1, 2, 0), AcyclicJoin.OK);
        Due.same("row in 1", join.rowState(1, 1, 2, 0), AcyclicJoin.ABSENT);
        Due.same("addRow to 1", join.addRow(1, 1, 2, 0), AcyclicJoin.OK);
        Due.same("addRow to 0", join.addRow(0, 3, 3, 0), AcyclicJoin.OK);
        Due.same("0 is full", join.addRow(0, 0, 0, 0), AcyclicJoin.FULL);
        Due.same("1 is not full", join.addRow(1, 0, 0, 0), AcyclicJoin.OK);
        Due.same("dropRow from 0", join.dropRow(0, 1, 2, 0), AcyclicJoin.OK);
        Due.same("row in 1 stays", join.rowState(1, 1, 2, 0), AcyclicJoin.STORED);
        Due.same("other row in 0 stays", join.rowState(0, 3, 3, 0), AcyclicJoin.STORED);
    }

    private static void addRowRefusesBadAtoms() {
        AcyclicJoin join = new AcyclicJoin(3, 4, 6, 8);
        join.addAtom(1);
        for (int atom : WILD) {
            if (atom != 0) {
                Due.same("addRow(" + atom + ")", join.addRow(atom, 0, 0, 0), AcyclicJoin.BAD);
                Due.same("dropRow(" + atom + ")", join.dropRow(atom, 0, 0, 0), AcyclicJoin.BAD);
                Due.same("rowState(" + atom + ")", join.rowState(atom, 0, 0, 0), AcyclicJoin.BAD);
            }
        }
    }

    private static void addRowLooksAtUsedValuesOnly() {
        int[] scopes = {8, 18, 37};
        for (int k = 1; k <= 3; k++) {
            for (int wild : WILD) {
                for (int place = 0; place < 3; place++) {
                    int[] row = {1, 1, 1};
                    row[place] = wild;
                    boolean bad = place < k && (wild < 0 || wild > 2);
                    AcyclicJoin join = new AcyclicJoin(6, 3, 3, 8);
                    join.addAtom(scopes[k - 1]);
                    String call = "k=" + k + " (0, " + row[0] + ", " + row[1] + ", " + row[2] + ")";
                    Due.same("addRow " + call, join.addRow(0, row[0], row[1], row[2]),
                            bad ? AcyclicJoin.BAD : AcyclicJoin.OK);
                    Due.same("rowState " + call, join.rowState(0, row[0], row[1], row[2]),
                            bad ? AcyclicJoin.BAD : AcyclicJoin.STORED);
                    if (!bad) {
                        int x = row[0];
                        int y = k > 1 ? row[1] : MAX;
                        int z = k > 2 ? row[2] : MIN;
                        Due.same("addRow again " + call, join.addRow(0, x, y, z), AcyclicJoin.DUPLICATE);
                        Due.same("dropRow " + call, join.dropRow(0, x, y, z), AcyclicJoin.OK);
                    }
                    Due.same("dropRow " + call, join.dropRow(0, row[0], row[1], row[2]),
                            bad ? AcyclicJoin.BAD : AcyclicJoin.ABSENT);
                }
            }
        }
    }

    private static void addRowTellsDuplicateBeforeFull() {
        AcyclicJoin join = new AcyclicJoin(3, 2, 3, 2);
        join.addAtom(3);
        join.addRow(0, 0, 0, 0);
        Due.same("duplicate below the limit", join.addRow(0, 0, 0, 9), AcyclicJoin.DUPLICATE);
        Due.same("a duplicate takes no room", join.addRow(0, 1, 0, 0), AcyclicJoin.OK);
        Due.same("duplicate at the limit", join.addRow(0, 0, 0, 0), AcyclicJoin.DUPLICATE);
        Due.same("duplicate at the limit", join.addRow(0, 1, 0, 0), AcyclicJoin.DUPLICATE);
        Due.same("full", join.addRow(0, 0, 1, 0), AcyclicJoin.FULL);
        Due.same("bad at the limit", join.addRow(0, 0, 2, 0), AcyclicJoin.BAD);
        Due.same("refused row is absent", join.rowState(0, 0, 1, 0), AcyclicJoin.ABSENT);
        Due.same("phase", join.phase(), AcyclicJoin.LOADING);
    }

    private static void addRowWantsLoading() {
        for (AcyclicJoin join : new AcyclicJoin[] {ready(), cyclic()}) {
            int phase = join.phase();
            Due.same("addRow in phase " + phase, join.addRow(0, 3, 3, 3), AcyclicJoin.WRONG_PHASE);
            Due.same("bad addRow in phase " + phase, join.addRow(-1, 9, 9, 9), AcyclicJoin.WRONG_PHASE);
            Due.same("duplicate addRow in phase " + phase, join.addRow(0, 0, 0, 0), AcyclicJoin.WRONG_PHASE);
            Due.same("row in phase " + phase, join.rowState(0, 3, 3, 3), AcyclicJoin.ABSENT);
        }
    }

    private static void rowsAreWrittenInAscendingOrder() {
        AcyclicJoin join = new AcyclicJoin(6, 4, 3, 8);
        join.addAtom((1 << 1) | (1 << 4));
        join.addAtom((1 << 0) | (1 << 3) | (1 << 5));
        join.addRow(0, 2, 3, 99);
        join.addRow(1, 1, 2, 3);
        join.compile();
        join.next(1);
        int[] want = {1, 2, 0, 2, 3, 3};
        for (int variable = 0; variable < 6; variable++) {
            Due.same("value of " + variable, join.value(1, variable), want[variable]);
        }
    }

    private static void dropRowRemovesOneRow() {
        AcyclicJoin join = new AcyclicJoin(3, 4, 3, 2);
        join.addAtom(7);
        Due.same("dropRow of nothing", join.dropRow(0, 1, 2, 3), AcyclicJoin.ABSENT);
        join.addRow(0, 1, 2, 3);
        join.addRow(0, 3, 2, 1);
        Due.same("dropRow of another", join.dropRow(0, 2, 2, 2), AcyclicJoin.ABSENT);
        Due.same("dropRow", join.dropRow(0, 1, 2, 3), AcyclicJoin.OK);
        Due.same("dropRow again", join.dropRow(0, 1, 2, 3), AcyclicJoin.ABSENT);
        Due.same("other row stays", join.rowState(0, 3, 2, 1), AcyclicJoin.STORED);
        Due.same("room again", join.addRow(0, 0, 0, 0), AcyclicJoin.OK);
        Due.same("and no more", join.addRow(0, 0, 0, 1), AcyclicJoin.FULL);
        Due.same("dropRow", join.dropRow(0, 0, 0, 0), AcyclicJoin.OK);
        Due.same("dropRow of the last", join.dropRow(0, 3, 2, 1), AcyclicJoin.OK);
        Due.same("atom stays", join.scope(0), 7);
        Due.same("phase", join.phase(), AcyclicJoin.LOADING);
        Due.same("next atom", join.addAtom(1), 1);
    }

    private static void dropRowRefusesBadArguments() {
        AcyclicJoin join = new AcyclicJoin(3, 2, 3, 2);
        join.addAtom(3);
        join.addRow(0, 1, 1, 0);
        Due.same("dropRow bad x", join.dropRow(0, 2, 1, 0), AcyclicJoin.BAD);
        Due.same("dropRow bad y", join.dropRow(0, 1, -1, 0), AcyclicJoin.BAD);
        Due.same("dropRow bad atom", join.dropRow(1, 1, 1, 0), AcyclicJoin.BAD);
        Due.same("row stays", join.rowState(0, 1, 1, 0), AcyclicJoin.STORED);
        Due.same("dropRow with ignored z", join.dropRow(0, 1, 1, MIN), AcyclicJoin.OK);
    }

    private static void dropRowWantsLoading() {
        for (AcyclicJoin join : new AcyclicJoin[] {ready(), cyclic()}) {
            int phase = join.phase();
            Due.same("dropRow in phase " + phase, join.dropRow(0, 0, 0, 0), AcyclicJoin.WRONG_PHASE);
            Due.same("bad dropRow in phase " + phase, join.dropRow(9, 0, 0, 0), AcyclicJoin.WRONG_PHASE);
            Due.same("absent dropRow in phase " + phase, join.dropRow(0, 3, 3, 0), AcyclicJoin.WRONG_PHASE);
            join.reopen();
            Due.same("row stayed", join.dropRow(0, 0, 0, 0), AcyclicJoin.OK);
        }
    }

    private static void scopeAnswersInEveryPhase() {
        AcyclicJoin loading = ready();
        loading.reopen();
        int[][] scopes = {{3, 6, 12}, {3, 6, 12}, {3, 6, 5}};
        AcyclicJoin[] joins = {loading, ready(), cyclic()};
        for (int i = 0; i < joins.length; i++) {
            Due.same("phase", joins[i].phase(), i);
            for (int wild : WILD) {
                boolean good = wild >= 0 && wild < 3;
                Due.same("scope(" + wild + ")", joins[i].scope(wild), good ? scopes[i][wild] : AcyclicJoin.BAD);
            }
            Due.same("phase", joins[i].phase(), i);
        }
    }

    private static AcyclicJoin ready() {
        return compiled(3, 6, 12);
    }

    private static AcyclicJoin cyclic() {
        return compiled(3, 6, 5);
    }

    private static AcyclicJoin compiled(int first, int second, int third) {
        AcyclicJoin join = new AcyclicJoin(4, 4, 4, 2);
        join.addAtom(first);
        join.addAtom(second);
        join.addAtom(third);
        join.addRow(0, 0, 0, 0);
        join.compile();
        return join;
    }
}
