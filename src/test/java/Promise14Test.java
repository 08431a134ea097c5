/** Promise 14: next. */
public final class Promise14Test {
    public static void main(String[] args) {
        Sentences.of("Promise 14: next")
                .holds("next(cursor), conditions in order:", Promise14Test::order)
                .holds("Not in READY: WRONG_PHASE.", Promise14Test::wrongPhase)
                .holds("Bad cursor: BAD.", Promise14Test::badCursor)
                .holds("The cursor is at the end: AT_END (it stays there).", Promise14Test::atEnd)
                .holds("Otherwise there may be a target: from the start, the target is the first answer of the"
                        + " query;", Promise14Test::fromTheStart)
                .holds("from an answer, the target is the least answer that is greater.", Promise14Test::fromAnAnswer)
                .holds("If there is a target, the cursor is put on it and MOVED is answered.", Promise14Test::moved)
                .holds("If there is none, the cursor is put at the end and AT_END is answered.",
                        Promise14Test::noTarget)
                .holds("In particular, if the query has no answers, next from the start puts the cursor at the end.",
                        Promise14Test::noAnswers)
                .holds("The other cursor, the atoms, the rows and the phase do not change.",
                        Promise14Test::othersStay)
                .end();
        Due.end();
    }

    private static void order() {
        for (Queries.State state : Queries.join(Queries.LOADING, Queries.CYCLIC)) {
            for (int cursor : new int[] {Integer.MIN_VALUE, -1, 2, Integer.MAX_VALUE}) {
                Due.same(state.name() + ": next(" + cursor + ")", state.make().next(cursor), AcyclicJoin.WRONG_PHASE);
            }
        }
        Due.same("WRONG_PHASE before AT_END", Queries.reopened(Queries.at(6, 6)).next(0), AcyclicJoin.WRONG_PHASE);
        Due.same("BAD with both cursors at the end", Queries.at(6, 6).next(2), AcyclicJoin.BAD);
    }

    private static void wrongPhase() {
        for (int cursor = 0; cursor < 2; cursor++) {
            int moved = cursor;
            Refused.inWrongPhase("next(" + cursor + ")", Queries.join(Queries.LOADING, Queries.CYCLIC), Queries.READY,
                    join -> join.next(moved));
        }
    }

    private static void badCursor() {
        Refused.badCursors("next", AcyclicJoin::next);
    }

    private static void atEnd() {
        for (int cursor = 0; cursor < 2; cursor++) {
            int moved = cursor;
            AcyclicJoin join = Queries.at(6, 6);
            for (int time = 0; time < 3; time++) {
                Due.same("next at the end", join.next(cursor), AcyclicJoin.AT_END);
                Queries.isAtEnd(join, cursor);
            }
            Story.unchanged("next at the end", () -> Queries.at(6, 6), other -> other.next(moved));
        }
        Story.unchanged("next at the end", () -> Queries.at(6, 2), join -> join.next(0));
        Story.unchanged("next at the end", () -> Queries.at(0, 6), join -> join.next(1));
    }

    private static void fromTheStart() {
        for (int cursor = 0; cursor < 2; cursor++) {
            AcyclicJoin join = Queries.at(0, 0);
            join.next(cursor);
            Queries.isOn(join, cursor, Queries.FIVE[0]);
            join.next(cursor);
            join.rewind(cursor);
            join.next(cursor);
            Queries.isOn(join, cursor, Queries.FIVE[0]);
        }
        // The least and the greatest of all assignments, each as the one answer.
        for (int value = 0; value < 4; value += 3) {
            AcyclicJoin join = Queries.of(7, 56);
            join.addRow(0, value, value, value);
            join.addRow(1, value, value, value);
            join.compile();
            join.next(0);
            Queries.isOn(join, 0, new int[] {value, value, value, value, value, value});
        }
    }

    private static void fromAnAnswer() {
        for (int cursor = 0; cursor < 2; cursor++) {
            AcyclicJoin join = Queries.at(0, 0);
            for (int[] answer : Queries.FIVE) {
                join.next(cursor);
                Queries.isOn(join, cursor, answer);
            }
        }
        AcyclicJoin all = Queries.of(1, 2, 4, 8, 16, 32);
        for (int atom = 0; atom < 6; atom++) {
            for (int value = 3; value >= 0; value--) {
                all.addRow(atom, value, 0, 0);
            }
        }
        all.compile();
        for (int number = 0; number < 4096; number++) {
            all.next(1);
            for (int variable = 0; variable < 6; variable++) {
                Due.same("value " + variable + " of answer " + number, all.value(1, variable),
                        number >> (2 * (5 - variable)) & 3);
            }
        }
    }

    private static void moved() {
        for (int cursor = 0; cursor < 2; cursor++) {
            AcyclicJoin join = Queries.at(0, 0);
            for (int[] answer : Queries.FIVE) {
                Due.same("next", join.next(cursor), AcyclicJoin.MOVED);
                Queries.isOn(join, cursor, answer);
            }
        }
    }

    private static void noTarget() {
        for (int cursor = 0; cursor < 2; cursor++) {
            AcyclicJoin join = Queries.at(5, 5);
            Queries.isOn(join, cursor, Queries.FIVE[4]);
            Due.same("next from the last answer", join.next(cursor), AcyclicJoin.AT_END);
            Queries.isAtEnd(join, cursor);
        }
        AcyclicJoin greatest = Queries.of(7, 56);
        greatest.addRow(0, 3, 3, 3);
        greatest.addRow(1, 3, 3, 3);
        greatest.compile();
        greatest.next(0);
        Due.same("next from the greatest of all assignments", greatest.next(0), AcyclicJoin.AT_END);
        Queries.isAtEnd(greatest, 0);
    }

    private static void noAnswers() {
        for (int cursor = 0; cursor < 2; cursor++) {
            AcyclicJoin join = Queries.afterCompile(Queries.none());
            Queries.isAtStart(join, cursor);
            Due.same("next without answers", join.next(cursor), AcyclicJoin.AT_END);
            Queries.isAtEnd(join, cursor);
            Queries.isAtStart(join, 1 - cursor);
        }
    }

    private static void othersStay() {
        Moves.leaveOthers("next", AcyclicJoin::next);
    }
}
