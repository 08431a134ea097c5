/** Promises 11 to 13: rowState, live and count. */
public final class RowsAndCountTest {
    private static final int MIN = Integer.MIN_VALUE;
    private static final int MAX = Integer.MAX_VALUE;

    public static void main(String[] args) {
        rowStateRefusesInOrder();
        rowStateInEachPhase();
        rowStateIgnoresUnusedArguments();
        danglingIsFoundOverTheWholeQuery();
        oneEmptyAtomLeavesNoAnswer();
        rowsOfAtomsApartDependOnEachOther();
        atomsOfOneScopeMeet();
        liveRefusesInOrder();
        countWantsReady();
        countDoesNotDependOnCursors();
        uncoveredVariablesAddNoAnswers();
        greatestCount();
        Due.end();
    }

    private static AcyclicJoin loaded(int... scopes) {
        AcyclicJoin join = new AcyclicJoin(6, 4, 6, 8);
        for (int scope : scopes) {
            join.addAtom(scope);
        }
        return join;
    }

    private static void rowStateRefusesInOrder() {
        AcyclicJoin join = new AcyclicJoin(6, 3, 6, 8);
        join.addAtom(9);
        join.addRow(0, 2, 1, 0);
        for (int round = 0; round < 2; round++) {
            for (int atom : new int[] {MIN, -1, 1, 5, 6, MAX}) {
                Due.same("rowState(" + atom + ")", join.rowState(atom, 2, 1, 0), AcyclicJoin.BAD);
            }
            for (int value : new int[] {MIN, -1, 3, 4, MAX}) {
                Due.same("rowState x " + value, join.rowState(0, value, 1, 0), AcyclicJoin.BAD);
                Due.same("rowState y " + value, join.rowState(0, 2, value, 0), AcyclicJoin.BAD);
            }
            Due.same("rowState absent", join.rowState(0, 1, 2, 0), AcyclicJoin.ABSENT);
            join.compile();
        }
    }

    private static void rowStateInEachPhase() {
        AcyclicJoin join = loaded(3, 6);
        join.addRow(0, 0, 1, 0);
        join.addRow(0, 0, 2, 0);
        join.addRow(1, 2, 0, 0);
        Due.same("in LOADING", join.rowState(0, 0, 1, 0), AcyclicJoin.STORED);
        join.compile();
        Due.same("dangling in READY", join.rowState(0, 0, 1, 0), AcyclicJoin.DANGLING);
        Due.same("live in READY", join.rowState(0, 0, 2, 0), AcyclicJoin.LIVE);
        Due.same("asking again", join.rowState(0, 0, 1, 0), AcyclicJoin.DANGLING);
        join.reopen();
        Due.same("again in LOADING", join.rowState(0, 0, 1, 0), AcyclicJoin.STORED);
        join.addAtom(5);
        join.addRow(2, 0, 0, 0);
        join.compile();
        Due.same("phase", join.phase(), AcyclicJoin.CYCLIC);
        Due.same("in CYCLIC", join.rowState(0, 0, 2, 0), AcyclicJoin.STORED);
        Due.same("absent in CYCLIC", join.rowState(0, 0, 3, 0), AcyclicJoin.ABSENT);
        Due.same("bad in CYCLIC", join.rowState(0, 0, 4, 0), AcyclicJoin.BAD);
    }

    private static void rowStateIgnoresUnusedArguments() {
        AcyclicJoin join = loaded(16, 20);
        join.addRow(0, 3, MIN, MAX);
        join.addRow(1, 1, 3, 77);
        join.compile();
        Due.same("one value", join.rowState(0, 3, 99, -99), AcyclicJoin.LIVE);
        Due.same("two values", join.rowState(1, 1, 3, MIN), AcyclicJoin.LIVE);
        Due.same("two values the other way", join.rowState(1, 3, 1, 0), AcyclicJoin.ABSENT);
    }

    private static void danglingIsFoundOverTheWholeQuery() {
        // Each neighbouring pair of the path fits, and still only one row of each atom is live.
        AcyclicJoin join = loaded(3, 6, 12, 24);
        for (int atom = 0; atom < 4; atom++) {
            join.addRow(atom, 0, 0, 0);
        }
        for (int atom = 0; atom < 3; atom++) {
            join.addRow(atom, 1, 1, 0);
        }
        for (int atom = 1; atom < 4; atom++) {
            join.addRow(atom, 2, 2, 0);
        }
        join.compile();
        Due.same("count", join.count(), 1);
        for (int atom = 0; atom < 4; atom++) {
            Due.same("live(" + atom + ")", join.live(atom), 1);
            Due.same("live row", join.rowState(atom, 0, 0, 0), AcyclicJoin.LIVE);
        }
        Due.same("dangling from afar", join.rowState(0, 1, 1, 0), AcyclicJoin.DANGLING);
        Due.same("dangling from afar", join.rowState(3, 2, 2, 0), AcyclicJoin.DANGLING);
    }

    private static void oneEmptyAtomLeavesNoAnswer() {
        AcyclicJoin join = loaded(1, 2, 4);
        join.addRow(0, 1, 0, 0);
        join.addRow(2, 1, 0, 0);
        Due.same("compile", join.compile(), AcyclicJoin.READY);
        Due.same("count", join.count(), 0);
        for (int atom = 0; atom < 3; atom++) {
            Due.same("live(" + atom + ")", join.live(atom), 0);
        }
        Due.same("row", join.rowState(0, 1, 0, 0), AcyclicJoin.DANGLING);
        join.reopen();
        Due.same("dangling row remains stored", join.dropRow(0, 1, 0, 0), AcyclicJoin.OK);
    }

    private static void rowsOfAtomsApartDependOnEachOther() {
        AcyclicJoin join = loaded(1, 2, 2);
        join.addRow(0, 1, 0, 0);
        join.addRow(1, 1, 0, 0);
        join.addRow(2, 2, 0, 0);
        join.compile();
        Due.same("atom apart", join.rowState(0, 1, 0, 0), AcyclicJoin.DANGLING);
        Due.same("live(0)", join.live(0), 0);
    }

    private static void atomsOfOneScopeMeet() {
        AcyclicJoin join = loaded(21, 21);
        join.addRow(0, 0, 1, 2);
        join.addRow(0, 3, 3, 3);
        join.addRow(0, 2, 1, 0);
        join.addRow(1, 2, 1, 0);
        join.addRow(1, 0, 1, 2);
        join.addRow(1, 3, 3, 2);
        join.compile();
        Due.same("count", join.count(), 2);
        Due.same("live(0)", join.live(0), 2);
        Due.same("live(1)", join.live(1), 2);
        Due.same("only in 0", join.rowState(0, 3, 3, 3), AcyclicJoin.DANGLING);
        Due.same("only in 1", join.rowState(1, 3, 3, 2), AcyclicJoin.DANGLING);
        Due.same("in both", join.rowState(1, 2, 1, 0), AcyclicJoin.LIVE);
    }

    private static void liveRefusesInOrder() {
        AcyclicJoin join = loaded(3, 6);
        Due.same("live in LOADING", join.live(0), AcyclicJoin.WRONG_PHASE);
        Due.same("bad live in LOADING", join.live(9), AcyclicJoin.WRONG_PHASE);
        join.compile();
        for (int atom : new int[] {MIN, -1, 2, 6, MAX}) {
            Due.same("live(" + atom + ")", join.live(atom), AcyclicJoin.BAD);
        }
        Due.same("live(1)", join.live(1), 0);
        join.reopen();
        join.addAtom(5);
        join.compile();
        Due.same("live in CYCLIC", join.live(0), AcyclicJoin.WRONG_PHASE);
        Due.same("bad live in CYCLIC", join.live(-1), AcyclicJoin.WRONG_PHASE);
    }

    private static void countWantsReady() {
        AcyclicJoin join = loaded(3, 6);
        Due.same("count in LOADING", join.count(), AcyclicJoin.WRONG_PHASE);
        join.compile();
        Due.same("count in READY", join.count(), 0);
        join.reopen();
        Due.same("count after reopen", join.count(), AcyclicJoin.WRONG_PHASE);
        join.addAtom(5);
        join.compile();
        Due.same("count in CYCLIC", join.count(), AcyclicJoin.WRONG_PHASE);
    }

    private static void countDoesNotDependOnCursors() {
        AcyclicJoin join = loaded(1, 2);
        for (int value = 0; value < 3; value++) {
            join.addRow(0, value, 0, 0);
            join.addRow(1, value, 0, 0);
        }
        join.compile();
        for (int step = 0; step < 12; step++) {
            Due.same("count at step " + step, join.count(), 9);
            join.next(0);
            Due.same("other cursor at step " + step, join.value(1, 0), AcyclicJoin.AT_START);
        }
    }

    private static void uncoveredVariablesAddNoAnswers() {
        AcyclicJoin join = loaded(8);
        join.addRow(0, 1, 0, 0);
        join.addRow(0, 3, 0, 0);
        join.compile();
        Due.same("count", join.count(), 2);
        Due.same("live", join.live(0), 2);
    }

    private static void greatestCount() {
        AcyclicJoin join = loaded(1, 2, 4, 8, 16, 32);
        for (int atom = 0; atom < 6; atom++) {
            for (int value = 0; value < 4; value++) {
                join.addRow(atom, value, 0, 0);
            }
        }
        join.compile();
        Due.same("count", join.count(), 4096);
        Due.same("live", join.live(5), 4);
    }
}
