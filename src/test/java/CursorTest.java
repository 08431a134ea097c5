/** Promises 14 to 17: next, skip, rewind and value. */
public final class CursorTest {
    private static final int MIN = Integer.MIN_VALUE;
    private static final int MAX = Integer.MAX_VALUE;
    private static final int[] BAD_CURSORS = {MIN, -1, 2, 3, 256, MAX};
    private static final int[] BAD_VARIABLES = {MIN, -1, 4, 5, 6, 32, MAX};

    public static void main(String[] args) {
        callsWantReady();
        badCursorsAreRefused();
        badVariablesAreRefused();
        nextWalksInOrder();
        nextWithoutAnswers();
        skipFromTheStart();
        skipWithoutAnswers();
        skipChangesThePrefix();
        skipOverUncoveredVariables();
        skipOfTheLastVariableIsNext();
        endStaysTheEnd();
        rewindFromEverywhere();
        cursorsAreIndependent();
        valueAtStartAndEnd();
        walkThroughAllAnswers();
        Due.end();
    }

    /** Variables 0, 1 and 3 of four are covered; the answers are (0,1,0,2) (0,1,0,3) (0,2,0,0) (3,1,0,2) (3,1,0,3). */
    private static AcyclicJoin five() {
        AcyclicJoin join = new AcyclicJoin(4, 4, 3, 8);
        join.addAtom(3);
        join.addAtom(10);
        join.addRow(0, 3, 1, 0);
        join.addRow(0, 0, 2, 0);
        join.addRow(0, 0, 1, 0);
        join.addRow(0, 2, 3, 0);
        join.addRow(1, 2, 0, 0);
        join.addRow(1, 1, 3, 0);
        join.addRow(1, 1, 2, 0);
        join.compile();
        return join;
    }

    private static AcyclicJoin none() {
        AcyclicJoin join = new AcyclicJoin(4, 4, 3, 8);
        join.addAtom(3);
        join.compile();
        return join;
    }

    private static void on(AcyclicJoin join, int cursor, int a, int b, int c, int d) {
        int[] want = {a, b, c, d};
        for (int variable = 0; variable < 4; variable++) {
            Due.same("value(" + cursor + ", " + variable + ")", join.value(cursor, variable), want[variable]);
        }
    }

    private static void at(AcyclicJoin join, int cursor, int place) {
        for (int variable = 0; variable < 4; variable++) {
            Due.same("value(" + cursor + ", " + variable + ")", join.value(cursor, variable), place);
        }
    }

    private static void callsWantReady() {
        AcyclicJoin loading = five();
        loading.reopen();
        AcyclicJoin cyclic = new AcyclicJoin(4, 4, 3, 8);
        cyclic.addAtom(3);
        cyclic.addAtom(6);
        cyclic.addAtom(5);
        cyclic.compile();
        for (AcyclicJoin join : new AcyclicJoin[] {new AcyclicJoin(4, 4, 3, 8), loading, cyclic}) {
            int phase = join.phase();
            for (int cursor : new int[] {0, 1, 2, -1}) {
                Due.same("next in " + phase, join.next(cursor), AcyclicJoin.WRONG_PHASE);
                Due.same("rewind in " + phase, join.rewind(cursor), AcyclicJoin.WRONG_PHASE);
                for (int variable : new int[] {0, 3, 4, -1}) {
                    Due.same("skip in " + phase, join.skip(cursor, variable), AcyclicJoin.WRONG_PHASE);
                    Due.same("value in " + phase, join.value(cursor, variable), AcyclicJoin.WRONG_PHASE);
                }
            }
            Due.same("phase", join.phase(), phase);
        }
    }

    private static void badCursorsAreRefused() {
        AcyclicJoin join = five();
        join.next(1);
        for (int cursor : BAD_CURSORS) {
            Due.same("next(" + cursor + ")", join.next(cursor), AcyclicJoin.BAD);
            Due.same("skip(" + cursor + ")", join.skip(cursor, 0), AcyclicJoin.BAD);
            Due.same("rewind(" + cursor + ")", join.rewind(cursor), AcyclicJoin.BAD);
            Due.same("value(" + cursor + ")", join.value(cursor, 0), AcyclicJoin.BAD);
            at(join, 0, AcyclicJoin.AT_START);
            on(join, 1, 0, 1, 0, 2);
        }
    }

    private static void badVariablesAreRefused() {
        AcyclicJoin join = five();
        for (int step = 0; step < 8; step++) {
            for (int variable : BAD_VARIABLES) {
                int before = join.value(0, 3);
                Due.same("skip(0, " + variable + ")", join.skip(0, variable), AcyclicJoin.BAD);
                Due.same("value(0, " + variable + ")", join.value(0, variable), AcyclicJoin.BAD);
                Due.same("value(0, 3)", join.value(0, 3), before);
            }
            join.next(0);
        }
    }

    private static void nextWalksInOrder() {
        AcyclicJoin join = five();
        int[][] want = {{0, 1, 0, 2}, {0, 1, 0, 3}, {0, 2, 0, 0}, {3, 1, 0, 2}, {3, 1, 0, 3}};
        for (int[] answer : want) {
            Due.same("next", join.next(0), AcyclicJoin.MOVED);
            on(join, 0, answer[0], answer[1], answer[2], answer[3]);
            Due.same("phase", join.phase(), AcyclicJoin.READY);
        }
        Due.same("next after the last", join.next(0), AcyclicJoin.AT_END);
        at(join, 0, AcyclicJoin.AT_END);
    }

    private static void nextWithoutAnswers() {
        AcyclicJoin join = none();
        at(join, 0, AcyclicJoin.AT_START);
        Due.same("next", join.next(0), AcyclicJoin.AT_END);
        at(join, 0, AcyclicJoin.AT_END);
        Due.same("next again", join.next(0), AcyclicJoin.AT_END);
        at(join, 1, AcyclicJoin.AT_START);
    }

    private static void skipFromTheStart() {
        for (int variable = 0; variable < 4; variable++) {
            AcyclicJoin join = five();
            Due.same("skip(1, " + variable + ")", join.skip(1, variable), AcyclicJoin.MOVED);
            on(join, 1, 0, 1, 0, 2);
            at(join, 0, AcyclicJoin.AT_START);
        }
    }

    private static void skipWithoutAnswers() {
        for (int variable = 0; variable < 4; variable++) {
            AcyclicJoin join = none();
            Due.same("skip(0, " + variable + ")", join.skip(0, variable), AcyclicJoin.AT_END);
            at(join, 0, AcyclicJoin.AT_END);
            at(join, 1, AcyclicJoin.AT_START);
        }
    }

    private static void skipChangesThePrefix() {
        AcyclicJoin join = five();
        join.next(0);
        Due.same("skip(0, 1)", join.skip(0, 1), AcyclicJoin.MOVED);
        on(join, 0, 0, 2, 0, 0);
        Due.same("skip(0, 1)", join.skip(0, 1), AcyclicJoin.MOVED);
        on(join, 0, 3, 1, 0, 2);
        Due.same("skip(0, 0)", join.skip(0, 0), AcyclicJoin.AT_END);
        at(join, 0, AcyclicJoin.AT_END);
        join.next(1);
        join.next(1);
        Due.same("skip(1, 0)", join.skip(1, 0), AcyclicJoin.MOVED);
        on(join, 1, 3, 1, 0, 2);
        Due.same("skip(1, 3)", join.skip(1, 3), AcyclicJoin.MOVED);
        on(join, 1, 3, 1, 0, 3);
        AcyclicJoin other = five();
        other.next(0);
        Due.same("skip of an uncovered variable", other.skip(0, 2), AcyclicJoin.MOVED);
        on(other, 0, 0, 2, 0, 0);
    }

    private static void skipOverUncoveredVariables() {
        AcyclicJoin join = new AcyclicJoin(4, 4, 3, 8);
        join.addAtom(4);
        join.addRow(0, 1, 0, 0);
        join.addRow(0, 2, 0, 0);
        join.compile();
        for (int variable = 0; variable < 2; variable++) {
            join.rewind(0);
            Due.same("skip from the start", join.skip(0, variable), AcyclicJoin.MOVED);
            on(join, 0, 0, 0, 1, 0);
            Due.same("skip with nothing covered", join.skip(0, variable), AcyclicJoin.AT_END);
            at(join, 0, AcyclicJoin.AT_END);
        }
        for (int variable = 2; variable < 4; variable++) {
            join.rewind(0);
            join.next(0);
            Due.same("skip(0, " + variable + ")", join.skip(0, variable), AcyclicJoin.MOVED);
            on(join, 0, 0, 0, 2, 0);
        }
    }

    private static void skipOfTheLastVariableIsNext() {
        AcyclicJoin join = five();
        for (int step = 0; step < 7; step++) {
            Due.same("skip like next", join.skip(0, 3), join.next(1));
            for (int variable = 0; variable < 4; variable++) {
                Due.same("value after skip", join.value(0, variable), join.value(1, variable));
            }
        }
    }

    private static void endStaysTheEnd() {
        AcyclicJoin join = five();
        for (int step = 0; step < 6; step++) {
            join.next(0);
        }
        Due.same("next at the end", join.next(0), AcyclicJoin.AT_END);
        at(join, 0, AcyclicJoin.AT_END);
        for (int variable = 0; variable < 4; variable++) {
            Due.same("skip at the end", join.skip(0, variable), AcyclicJoin.AT_END);
            at(join, 0, AcyclicJoin.AT_END);
        }
    }

    private static void rewindFromEverywhere() {
        AcyclicJoin join = five();
        Due.same("rewind at the start", join.rewind(0), AcyclicJoin.OK);
        at(join, 0, AcyclicJoin.AT_START);
        join.next(0);
        join.next(0);
        join.next(1);
        Due.same("rewind on an answer", join.rewind(0), AcyclicJoin.OK);
        at(join, 0, AcyclicJoin.AT_START);
        on(join, 1, 0, 1, 0, 2);
        for (int step = 0; step < 6; step++) {
            join.next(0);
        }
        Due.same("rewind at the end", join.rewind(0), AcyclicJoin.OK);
        at(join, 0, AcyclicJoin.AT_START);
        join.next(0);
        on(join, 0, 0, 1, 0, 2);
        Due.same("rewind of the other", join.rewind(1), AcyclicJoin.OK);
        at(join, 1, AcyclicJoin.AT_START);
        on(join, 0, 0, 1, 0, 2);
    }

    private static void cursorsAreIndependent() {
        AcyclicJoin join = five();
        join.next(0);
        join.next(1);
        join.next(1);
        join.next(1);
        on(join, 0, 0, 1, 0, 2);
        on(join, 1, 0, 2, 0, 0);
        join.skip(0, 0);
        on(join, 0, 3, 1, 0, 2);
        on(join, 1, 0, 2, 0, 0);
        join.skip(0, 0);
        at(join, 0, AcyclicJoin.AT_END);
        on(join, 1, 0, 2, 0, 0);
        Due.same("next of the other", join.next(1), AcyclicJoin.MOVED);
        on(join, 1, 3, 1, 0, 2);
        at(join, 0, AcyclicJoin.AT_END);
    }

    private static void valueAtStartAndEnd() {
        AcyclicJoin join = five();
        at(join, 0, AcyclicJoin.AT_START);
        at(join, 1, AcyclicJoin.AT_START);
        Due.same("bad variable before the start", join.value(0, 4), AcyclicJoin.BAD);
        Due.same("value changes nothing", join.next(0), AcyclicJoin.MOVED);
        on(join, 0, 0, 1, 0, 2);
        on(join, 0, 0, 1, 0, 2);
    }

    private static void walkThroughAllAnswers() {
        AcyclicJoin join = new AcyclicJoin(6, 4, 6, 4);
        for (int atom = 0; atom < 6; atom++) {
            join.addAtom(1 << atom);
            for (int value = 3; value >= 0; value--) {
                join.addRow(atom, value, 0, 0);
            }
        }
        join.compile();
        for (int number = 0; number < 4096; number++) {
            Due.same("next", join.next(0), AcyclicJoin.MOVED);
            for (int variable = 0; variable < 6; variable++) {
                Due.same("value", join.value(0, variable), (number >> (2 * (5 - variable))) & 3);
            }
        }
        Due.same("next after the last", join.next(0), AcyclicJoin.AT_END);
        for (int variable = 0; variable < 6; variable++) {
            join.rewind(1);
            int steps = 0;
            while (steps < 5000 && join.skip(1, variable) == AcyclicJoin.MOVED) {
                steps++;
            }
            Due.same("steps of skip(1, " + variable + ")", steps, 1 << (2 * (variable + 1)));
        }
    }
}
