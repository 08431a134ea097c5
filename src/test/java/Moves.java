import java.util.List;
import java.util.function.Supplier;

/** What next, skip and rewind share: they change one cursor and nothing else. */
final class Moves {
    private Moves() {
    }

    /** Tries the move wherever the cursors are. */
    static void leaveOthers(String name, Refused.CallWithOne move) {
        for (int cursor = 0; cursor < 2; cursor++) {
            for (int first = 0; first <= 6; first++) {
                for (int second = 0; second <= 6; second++) {
                    int stepsOf0 = first;
                    int stepsOf1 = second;
                    leavesOthers(name + " of cursor " + cursor + " after " + first + " and " + second + " steps",
                            () -> Queries.at(stepsOf0, stepsOf1), cursor, move);
                }
            }
            leavesOthers(name + " of cursor " + cursor + " without answers",
                    () -> Queries.afterCompile(Queries.none()), cursor, move);
        }
    }

    private static void leavesOthers(String what, Supplier<AcyclicJoin> maker, int cursor, Refused.CallWithOne move) {
        AcyclicJoin join = maker.get();
        List<Integer> other = Story.cursor(join, 1 - cursor);
        List<Integer> query = Story.query(join);
        move.on(join, cursor);
        Due.yes(what + ": the other cursor as before", Story.cursor(join, 1 - cursor).equals(other));
        Due.yes(what + ": the query as before", Story.query(join).equals(query));
        // With the moved cursor put back in both, the move can leave no trace.
        Story.same(what + ": no trace", () -> rewound(maker.get(), cursor), () -> {
            AcyclicJoin moved = maker.get();
            move.on(moved, cursor);
            return rewound(moved, cursor);
        });
    }

    private static AcyclicJoin rewound(AcyclicJoin join, int cursor) {
        join.rewind(cursor);
        return join;
    }
}
