/** Promise 17: value. */
public final class Promise17Test {
    public static void main(String[] args) {
        Sentences.of("Promise 17: value")
                .holds("value(cursor, variable), conditions in order:", Promise17Test::order)
                .holds("Not in READY: WRONG_PHASE.", Promise17Test::wrongPhase)
                .holds("Bad cursor: BAD.", Promise17Test::badCursor)
                .holds("Bad variable: BAD.", Promise17Test::badVariable)
                .holds("The cursor is at the start: AT_START.", Promise17Test::atStart)
                .holds("The cursor is at the end: AT_END.", Promise17Test::atEnd)
                .holds("Otherwise the value of the variable in the answer the cursor is on is answered (0 if the"
                        + " variable is not covered).", Promise17Test::answers)
                .holds("Nothing changes; the cursor stays where it is.", Promise17Test::nothingChanges)
                .end();
        Due.end();
    }

    private static void order() {
        Refused.comesInOrder("value", AcyclicJoin::value);
        Due.same("WRONG_PHASE before AT_START", Queries.five().value(0, 0), AcyclicJoin.WRONG_PHASE);
        Due.same("WRONG_PHASE before AT_END", Queries.reopened(Queries.at(6, 6)).value(0, 0), AcyclicJoin.WRONG_PHASE);
    }

    private static void wrongPhase() {
        Refused.inWrongPhase("value", AcyclicJoin::value);
    }

    private static void badCursor() {
        Refused.badCursors("value", (join, cursor) -> join.value(cursor, 0));
        Refused.badCursors("value", (join, cursor) -> join.value(cursor, 3));
    }

    private static void badVariable() {
        Refused.badVariables("value", AcyclicJoin::value);
    }

    private static void atStart() {
        for (int cursor = 0; cursor < 2; cursor++) {
            for (int variable = 0; variable < 4; variable++) {
                AcyclicJoin join = Queries.at(0, 0);
                Due.same("at the start", join.value(cursor, variable), AcyclicJoin.AT_START);
                join.next(1 - cursor);
                Due.same("with the other cursor on", join.value(cursor, variable), AcyclicJoin.AT_START);
                join.next(cursor);
                join.rewind(cursor);
                Due.same("after rewind", join.value(cursor, variable), AcyclicJoin.AT_START);
                AcyclicJoin none = Queries.afterCompile(Queries.none());
                Due.same("without answers", none.value(cursor, variable), AcyclicJoin.AT_START);
            }
        }
    }

    private static void atEnd() {
        for (int cursor = 0; cursor < 2; cursor++) {
            for (int variable = 0; variable < 4; variable++) {
                AcyclicJoin join = Queries.at(6, 6);
                Due.same("at the end", join.value(cursor, variable), AcyclicJoin.AT_END);
                join.rewind(1 - cursor);
                Due.same("with the other cursor at the start", join.value(cursor, variable), AcyclicJoin.AT_END);
                AcyclicJoin none = Queries.afterCompile(Queries.none());
                none.next(cursor);
                Due.same("without answers", none.value(cursor, variable), AcyclicJoin.AT_END);
            }
        }
    }

    private static void answers() {
        for (int first = 1; first <= 5; first++) {
            for (int second = 1; second <= 5; second++) {
                AcyclicJoin join = Queries.at(first, second);
                Queries.isOn(join, 0, Queries.FIVE[first - 1]);
                Queries.isOn(join, 1, Queries.FIVE[second - 1]);
            }
        }
        for (int scope = 1; scope < 64; scope++) {
            int k = Integer.bitCount(scope);
            if (k <= 3) {
                AcyclicJoin join = Queries.of(scope);
                join.addRow(0, 3, 1, 2);
                join.compile();
                join.next(0);
                int[] row = {3, 1, 2};
                int place = 0;
                for (int variable = 0; variable < 6; variable++) {
                    boolean covered = (scope >> variable & 1) != 0;
                    Due.same("scope " + scope + ": value of " + variable, join.value(0, variable),
                            covered ? row[place] : 0);
                    place += covered ? 1 : 0;
                }
            }
        }
    }

    private static void nothingChanges() {
        for (Queries.State state : Queries.ALL) {
            for (int cursor = -1; cursor <= 2; cursor++) {
                for (int variable = -1; variable <= 4; variable++) {
                    int asked = cursor;
                    int of = variable;
                    Story.unchanged(state.name() + ": value(" + cursor + ", " + variable + ")", state.maker(),
                            join -> join.value(asked, of));
                }
            }
        }
        AcyclicJoin join = Queries.at(2, 0);
        for (int time = 0; time < 3; time++) {
            Queries.isOn(join, 0, Queries.FIVE[1]);
        }
        join.next(0);
        Queries.isOn(join, 0, Queries.FIVE[2]);
    }
}
