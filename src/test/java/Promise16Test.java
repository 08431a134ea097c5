/** Promise 16: rewind. */
public final class Promise16Test {
    public static void main(String[] args) {
        Sentences.of("Promise 16: rewind")
                .holds("rewind(cursor), conditions in order:", Promise16Test::order)
                .holds("Not in READY: WRONG_PHASE.", Promise16Test::wrongPhase)
                .holds("Bad cursor: BAD.", Promise16Test::badCursor)
                .holds("Otherwise the cursor is put at the start, wherever it was (at the start, on an answer, or at"
                        + " the end), and OK is answered.", Promise16Test::fromEverywhere)
                .holds("The other cursor, the atoms, the rows and the phase do not change.",
                        Promise16Test::othersStay)
                .end();
        Due.end();
    }

    private static void order() {
        for (Queries.State state : Queries.join(Queries.LOADING, Queries.CYCLIC)) {
            for (int cursor : new int[] {Integer.MIN_VALUE, -1, 2, Integer.MAX_VALUE}) {
                Due.same(state.name() + ": rewind(" + cursor + ")", state.make().rewind(cursor),
                        AcyclicJoin.WRONG_PHASE);
            }
        }
    }

    private static void wrongPhase() {
        for (int cursor = 0; cursor < 2; cursor++) {
            int moved = cursor;
            Refused.inWrongPhase("rewind(" + cursor + ")", Queries.join(Queries.LOADING, Queries.CYCLIC),
                    Queries.READY, join -> join.rewind(moved));
        }
    }

    private static void badCursor() {
        Refused.badCursors("rewind", AcyclicJoin::rewind);
    }

    private static void fromEverywhere() {
        for (int steps = 0; steps <= 7; steps++) {
            for (int cursor = 0; cursor < 2; cursor++) {
                AcyclicJoin join = Queries.at(steps, steps);
                Due.same("rewind after " + steps + " steps", join.rewind(cursor), AcyclicJoin.OK);
                Queries.isAtStart(join, cursor);
                Due.same("next after rewind", join.next(cursor), AcyclicJoin.MOVED);
                Queries.isOn(join, cursor, Queries.FIVE[0]);
            }
        }
        AcyclicJoin none = Queries.afterCompile(Queries.none());
        none.next(0);
        Due.same("rewind without answers", none.rewind(0), AcyclicJoin.OK);
        Queries.isAtStart(none, 0);
        Due.same("next without answers", none.next(0), AcyclicJoin.AT_END);
    }

    private static void othersStay() {
        Moves.leaveOthers("rewind", AcyclicJoin::rewind);
        Story.same("rewind is as if the cursor had not moved", () -> Queries.at(0, 4), () -> {
            AcyclicJoin join = Queries.at(3, 4);
            join.rewind(0);
            return join;
        });
    }
}
