/** Promise 13: count. */
public final class Promise13Test {
    public static void main(String[] args) {
        Sentences.of("Promise 13: count")
                .holds("count(): Not in READY: WRONG_PHASE.", Promise13Test::wrongPhase)
                .holds("Otherwise the number of answers of the query (0..4096).", Promise13Test::answers)
                .holds("It does not depend on where the cursors are.", Promise13Test::cursorsDoNotMatter)
                .holds("Nothing changes.", Promise13Test::nothingChanges)
                .end();
        Due.end();
    }

    private static void wrongPhase() {
        Refused.inWrongPhase("count()", Queries.join(Queries.LOADING, Queries.CYCLIC), Queries.READY,
                AcyclicJoin::count);
    }

    private static void answers() {
        Due.same("none", Queries.afterCompile(Queries.none()).count(), 0);
        Due.same("five", Queries.afterCompile(Queries.five()).count(), 5);
        for (int v = 3; v <= 6; v++) {
            for (int d = 2; d <= 4; d++) {
                AcyclicJoin join = new AcyclicJoin(v, d, 6, 8);
                int due = 1;
                for (int atom = 0; atom < v; atom++) {
                    join.addAtom(1 << atom);
                    for (int value = 0; value < d; value++) {
                        join.addRow(atom, value, 0, 0);
                    }
                    due *= d;
                }
                join.compile();
                Due.same("all of V " + v + ", D " + d, join.count(), due);
            }
        }
        AcyclicJoin uncovered = Queries.of(8);
        uncovered.addRow(0, 1, 0, 0);
        uncovered.addRow(0, 3, 0, 0);
        uncovered.compile();
        Due.same("with variables that are not covered", uncovered.count(), 2);
        AcyclicJoin product = Queries.of(7, 56);
        for (int row = 0; row < 8; row++) {
            product.addRow(0, row & 3, row >> 2, 0);
            product.addRow(1, 0, row & 3, row >> 2);
        }
        product.compile();
        Due.same("eight by eight", product.count(), 64);
    }

    private static void cursorsDoNotMatter() {
        for (int first = 0; first <= 7; first++) {
            for (int second = 0; second <= 7; second++) {
                Due.same("count after " + first + " and " + second + " steps", Queries.at(first, second).count(), 5);
            }
        }
        AcyclicJoin join = Queries.at(0, 0);
        join.skip(0, 0);
        join.skip(0, 0);
        Due.same("count after skip", join.count(), 5);
        join.rewind(0);
        Due.same("count after rewind", join.count(), 5);
    }

    private static void nothingChanges() {
        for (Queries.State state : Queries.ALL) {
            Story.unchanged(state.name() + ": count", state.maker(), AcyclicJoin::count);
        }
    }
}
