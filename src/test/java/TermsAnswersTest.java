/** The terms for covered variables and for the answers of the query. */
public final class TermsAnswersTest {
    public static void main(String[] args) {
        Sentences.of("Covered")
                .holds("A variable is covered iff it is in the scope of at least one atom.", TermsAnswersTest::covered)
                .end();
        Sentences.of("Answers of the query")
                .holds("An answer of the query is an assignment of a value to each variable 0 .. V-1 such that",
                        TermsAnswersTest::assignment)
                .holds("each variable that is not covered has value 0, and", TermsAnswersTest::zeroIfNotCovered)
                .holds("for each atom the values of the variables of its scope form a stored row of that atom.",
                        TermsAnswersTest::storedRowOfEachAtom)
                .holds("So an atom without rows leaves no answer.", TermsAnswersTest::atomWithoutRows)
                .holds("Answers of the query are ordered lexicographically, variable 0 being the most significant,"
                        + " then variable 1, and so on; the smaller value comes first.", TermsAnswersTest::order)
                .end();
        Due.end();
    }

    private static void covered() {
        // The one atom that covers variable 5 stands at each place, and its scope has each size.
        for (int scope : new int[] {32, 33, 35}) {
            for (int place = 0; place < 6; place++) {
                AcyclicJoin join = Queries.of();
                for (int atom = 0; atom < 6; atom++) {
                    join.addAtom(atom == place ? scope : 3);
                    join.addRow(atom, 1, atom == place && scope == 33 ? 2 : 1, 2);
                }
                if (scope == 32) {
                    join.addRow(place, 2, 0, 0);
                    join.dropRow(place, 1, 0, 0);
                }
                join.compile();
                join.next(0);
                Queries.isOn(join, 0, new int[] {1, 1, 0, 0, 0, 2});
            }
        }
        // More than one atom, and a scope that comes after a first compile.
        AcyclicJoin join = Queries.of(1, 1);
        join.addRow(0, 3, 0, 0);
        join.addRow(1, 3, 0, 0);
        join.compile();
        join.next(0);
        Queries.isOn(join, 0, new int[] {3, 0, 0, 0, 0, 0});
        join.reopen();
        join.addAtom(16);
        join.addRow(2, 2, 0, 0);
        join.compile();
        join.next(0);
        Queries.isOn(join, 0, new int[] {3, 0, 0, 0, 2, 0});
    }

    private static void assignment() {
        for (int v = 3; v <= 6; v++) {
            AcyclicJoin join = new AcyclicJoin(v, 4, 6, 8);
            join.addAtom(7);
            join.addRow(0, 3, 2, 1);
            join.compile();
            Due.same("V " + v + ": one answer", join.count(), 1);
            join.next(0);
            for (int variable = 0; variable < v; variable++) {
                Due.same("V " + v + ": value of " + variable, join.value(0, variable), Math.max(3 - variable, 0));
            }
            Due.same("V " + v + ": no value beyond", join.value(0, v), AcyclicJoin.BAD);
        }
    }

    private static void zeroIfNotCovered() {
        for (int scope = 1; scope < 64; scope++) {
            if (Integer.bitCount(scope) <= 3) {
                AcyclicJoin join = Queries.of(scope);
                join.addRow(0, 3, 3, 3);
                join.addRow(0, 1, 1, 1);
                join.compile();
                Due.same("scope " + scope + ": count", join.count(), 2);
                for (int step = 0; step < 2; step++) {
                    join.next(0);
                    for (int variable = 0; variable < 6; variable++) {
                        boolean covered = (scope >> variable & 1) != 0;
                        Due.same("scope " + scope + ": value of " + variable, join.value(0, variable),
                                covered ? 1 + 2 * step : 0);
                    }
                }
            }
        }
    }

    private static void storedRowOfEachAtom() {
        AcyclicJoin five = Queries.afterCompile(Queries.five());
        Due.same("count", five.count(), Queries.FIVE.length);
        for (int[] answer : Queries.FIVE) {
            five.next(0);
            Queries.isOn(five, 0, answer);
        }
        // The same scope six times: an answer needs the row in each of them.
        for (int missing = -1; missing < 6; missing++) {
            AcyclicJoin join = Queries.of(11, 11, 11, 11, 11, 11);
            for (int atom = 0; atom < 6; atom++) {
                join.addRow(atom, 1, 2, atom == missing ? 0 : 3);
            }
            join.compile();
            Due.same("the row is missing in " + missing, join.count(), missing < 0 ? 1 : 0);
        }
        // A dropped row is not stored.
        AcyclicJoin dropped = Queries.five();
        dropped.dropRow(0, 0, 1, 0);
        dropped.compile();
        Due.same("count after dropRow", dropped.count(), 3);
    }

    private static void atomWithoutRows() {
        int[] scopes = {1, 3, 7, 12, 24, 48};
        for (int empty = 0; empty < 6; empty++) {
            AcyclicJoin join = Queries.of(scopes);
            for (int atom = 0; atom < 6; atom++) {
                if (atom != empty) {
                    join.addRow(atom, 0, 0, 0);
                }
            }
            Due.same("compile with atom " + empty + " empty", join.compile(), AcyclicJoin.READY);
            Due.same("count with atom " + empty + " empty", join.count(), 0);
            Due.same("next with atom " + empty + " empty", join.next(0), AcyclicJoin.AT_END);
            join.reopen();
            join.addRow(empty, 0, 0, 0);
            join.compile();
            Due.same("count with a row in each", join.count(), 1);
        }
        Due.same("the only atom is empty", Queries.compiled(5).count(), 0);
    }

    private static void order() {
        // Each pair of variables: the lower one decides, whatever the higher one says.
        for (int low = 0; low < 6; low++) {
            for (int high = low + 1; high < 6; high++) {
                AcyclicJoin join = Queries.of(1 << low | 1 << high);
                join.addRow(0, 2, 0, 0);
                join.addRow(0, 1, 3, 0);
                join.addRow(0, 1, 2, 0);
                join.addRow(0, 0, 3, 0);
                join.compile();
                int[][] due = {{0, 3}, {1, 2}, {1, 3}, {2, 0}};
                for (int[] pair : due) {
                    join.next(0);
                    Due.same("value of " + low + " before " + high, join.value(0, low), pair[0]);
                    Due.same("value of " + high + " after " + low, join.value(0, high), pair[1]);
                }
            }
        }
        AcyclicJoin both = Queries.of(36, 18);
        both.addRow(0, 0, 3, 0);
        both.addRow(0, 1, 0, 0);
        both.addRow(1, 2, 0, 0);
        both.addRow(1, 0, 1, 0);
        both.compile();
        int[][] due = {{0, 0, 0, 0, 1, 3}, {0, 0, 1, 0, 1, 0}, {0, 2, 0, 0, 0, 3}, {0, 2, 1, 0, 0, 0}};
        for (int[] answer : due) {
            both.next(1);
            Queries.isOn(both, 1, answer);
        }
    }
}
