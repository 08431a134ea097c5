/** The terms for variables, values, atoms and rows. */
public final class TermsRowsTest {
    public static void main(String[] args) {
        Sentences.of("Variables, values, masks")
                .holds("Variables are numbered 0 .. V-1.", TermsRowsTest::variables)
                .holds("Values are 0 .. D-1.", TermsRowsTest::values)
                .holds("A set of variables is an int mask: variable v is in it iff bit (1 << v) is set.",
                        TermsRowsTest::masks)
                .end();
        Sentences.of("Atoms and rows")
                .holds("An atom has a scope (a mask of one, two or three variables) and a set of rows.",
                        TermsRowsTest::atoms)
                .holds("A row of an atom gives one value to each variable of its scope.", TermsRowsTest::rows)
                .end();
        Sentences.of("Writing a row")
                .holds("A call that names a row has the arguments (atom, x, y, z).", TermsRowsTest::callsOfRows)
                .holds("If the scope of the atom has k variables, the first k of x, y, z are the values of these"
                        + " variables, the variables taken in ascending order.", TermsRowsTest::ascendingOrder)
                .holds("The other 3-k arguments are ignored, whatever they are.", TermsRowsTest::ignored)
                .holds("For example, if the scope consists of the variables 1 and 4, then x is the value of variable"
                        + " 1, y is the value of variable 4, and z is ignored.", TermsRowsTest::example)
                .holds("Two calls whose arguments differ only in ignored ones name the same row.",
                        TermsRowsTest::sameRow)
                .end();
        Due.end();
    }

    private static void variables() {
        for (int v = 3; v <= 6; v++) {
            for (int variable = -1; variable <= v; variable++) {
                boolean there = variable >= 0 && variable < v;
                AcyclicJoin join = new AcyclicJoin(v, 4, 6, 8);
                if (there) {
                    Due.same("V " + v + ": an atom over " + variable, join.addAtom(1 << variable), 0);
                    join.addRow(0, 3, 0, 0);
                } else {
                    join.addAtom(1);
                    join.addRow(0, 0, 0, 0);
                }
                join.compile();
                join.next(0);
                Due.same("V " + v + ": value of " + variable, join.value(0, variable), there ? 3 : AcyclicJoin.BAD);
            }
        }
    }

    private static void values() {
        for (int d = 2; d <= 4; d++) {
            AcyclicJoin join = new AcyclicJoin(4, d, 6, 8);
            join.addAtom(4);
            Due.same("D " + d + ": row -1", join.addRow(0, -1, 0, 0), AcyclicJoin.BAD);
            Due.same("D " + d + ": row D", join.addRow(0, d, 0, 0), AcyclicJoin.BAD);
            for (int value = d - 1; value >= 0; value--) {
                Due.same("D " + d + ": row " + value, join.addRow(0, value, 0, 0), AcyclicJoin.OK);
            }
            join.compile();
            for (int value = 0; value < d; value++) {
                join.next(0);
                Due.same("D " + d + ": value", join.value(0, 2), value);
            }
            Due.same("D " + d + ": no more", join.next(0), AcyclicJoin.AT_END);
        }
    }

    private static void masks() {
        for (int variable = 0; variable < 6; variable++) {
            AcyclicJoin join = Queries.of(1 << variable);
            join.addRow(0, 2, 0, 0);
            join.compile();
            join.next(0);
            for (int other = 0; other < 6; other++) {
                Due.same("mask of " + variable + ", value of " + other, join.value(0, other),
                        other == variable ? 2 : 0);
            }
        }
        for (int mask = 1; mask < 64; mask++) {
            if (Integer.bitCount(mask) == 3) {
                int low = Integer.lowestOneBit(mask);
                int high = Integer.highestOneBit(mask);
                int middle = mask & ~low & ~high;
                AcyclicJoin ring = Queries.compiled(low | middle, middle | high, low | high);
                Due.same("residue of a ring over " + mask, ring.residue(), mask);
                Due.same("residueOf(1) in it", ring.residueOf(1), middle | high);
                Due.same("scope(2) in it", ring.scope(2), low | high);
            }
        }
    }

    private static void atoms() {
        for (int scope = 0; scope < 64; scope++) {
            int size = Integer.bitCount(scope);
            AcyclicJoin join = Queries.of();
            Due.same("addAtom(" + scope + ")", join.addAtom(scope), size >= 1 && size <= 3 ? 0 : AcyclicJoin.BAD);
        }
        // A set has a row once or not at all.
        AcyclicJoin join = new AcyclicJoin(3, 4, 3, 2);
        join.addAtom(3);
        join.addRow(0, 1, 1, 0);
        join.addRow(0, 1, 1, 0);
        join.addRow(0, 1, 1, 0);
        Due.same("room beside a row added three times", join.addRow(0, 2, 2, 0), AcyclicJoin.OK);
        join.compile();
        Due.same("live(0)", join.live(0), 2);
        Due.same("count", join.count(), 2);
        join.reopen();
        Due.same("dropRow", join.dropRow(0, 1, 1, 0), AcyclicJoin.OK);
        Due.same("the row after one dropRow", join.rowState(0, 1, 1, 0), AcyclicJoin.ABSENT);
    }

    private static void rows() {
        for (int k = 1; k <= 3; k++) {
            AcyclicJoin join = Queries.of(new int[] {4, 36, 38}[k - 1]);
            int rows = 0;
            for (int row = 0; row < 64; row++) {
                int x = row >> 4;
                int y = row >> 2 & 3;
                int z = row & 3;
                // With k values of 0 or 1 there are as many rows as there are such numbers of k bits.
                if (x < 2 && y < 2 && z < 2) {
                    rows += join.addRow(0, x, y, z) == AcyclicJoin.OK ? 1 : 0;
                }
            }
            Due.same("rows over " + k + " variables", rows, 1 << k);
            join.compile();
            Due.same("answers over " + k + " variables", join.count(), 1 << k);
        }
    }

    private static void callsOfRows() {
        AcyclicJoin join = Queries.of(1, 7);
        Due.same("addRow", join.addRow(1, 3, 2, 1), AcyclicJoin.OK);
        Due.same("rowState", join.rowState(1, 3, 2, 1), AcyclicJoin.STORED);
        Due.same("rowState of the other atom", join.rowState(0, 3, 2, 1), AcyclicJoin.ABSENT);
        Due.same("rowState of another x", join.rowState(1, 0, 2, 1), AcyclicJoin.ABSENT);
        Due.same("rowState of another y", join.rowState(1, 3, 0, 1), AcyclicJoin.ABSENT);
        Due.same("rowState of another z", join.rowState(1, 3, 2, 0), AcyclicJoin.ABSENT);
        Due.same("dropRow", join.dropRow(1, 3, 2, 1), AcyclicJoin.OK);
    }

    private static void ascendingOrder() {
        for (int scope = 1; scope < 64; scope++) {
            if (Integer.bitCount(scope) <= 3) {
                AcyclicJoin join = Queries.of(scope);
                int[] row = {1, 2, 3};
                join.addRow(0, row[0], row[1], row[2]);
                join.compile();
                join.next(0);
                int place = 0;
                for (int variable = 0; variable < 6; variable++) {
                    if ((scope >> variable & 1) != 0) {
                        Due.same("scope " + scope + ": variable " + variable, join.value(0, variable), row[place]);
                        place++;
                    }
                }
            }
        }
    }

    private static void ignored() {
        for (int wild : Queries.WILD) {
            for (int other : Queries.WILD) {
                AcyclicJoin join = Queries.of(2, 10);
                Due.same("addRow of one value", join.addRow(0, 1, wild, other), AcyclicJoin.OK);
                Due.same("addRow of two values", join.addRow(1, 1, 2, wild), AcyclicJoin.OK);
                Due.same("rowState of one value", join.rowState(0, 1, other, wild), AcyclicJoin.STORED);
                Due.same("rowState of two values", join.rowState(1, 1, 2, other), AcyclicJoin.STORED);
                Due.same("rowState of one value", join.rowState(0, 2, other, wild), AcyclicJoin.ABSENT);
                Due.same("dropRow of one value", join.dropRow(0, 1, other, other), AcyclicJoin.OK);
                Due.same("dropRow of two values", join.dropRow(1, 1, 2, other), AcyclicJoin.OK);
            }
        }
    }

    private static void example() {
        for (int z : Queries.WILD) {
            AcyclicJoin join = Queries.of(1 << 1 | 1 << 4);
            Due.same("addRow(0, 2, 3, " + z + ")", join.addRow(0, 2, 3, z), AcyclicJoin.OK);
            join.compile();
            join.next(1);
            Queries.isOn(join, 1, new int[] {0, 2, 0, 0, 3, 0});
            Due.same("rowState", join.rowState(0, 2, 3, ~z), AcyclicJoin.LIVE);
            Due.same("rowState the other way round", join.rowState(0, 3, 2, z), AcyclicJoin.ABSENT);
        }
    }

    private static void sameRow() {
        AcyclicJoin join = new AcyclicJoin(4, 4, 3, 2);
        join.addAtom(8);
        join.addAtom(5);
        join.addRow(0, 3, 0, 0);
        join.addRow(1, 3, 1, 0);
        for (int wild : Queries.WILD) {
            Due.same("addRow again, k 1", join.addRow(0, 3, wild, 0), AcyclicJoin.DUPLICATE);
            Due.same("addRow again, k 1", join.addRow(0, 3, 0, wild), AcyclicJoin.DUPLICATE);
            Due.same("addRow again, k 2", join.addRow(1, 3, 1, wild), AcyclicJoin.DUPLICATE);
        }
        Due.same("one row so far, k 1", join.addRow(0, 0, 0, 0), AcyclicJoin.OK);
        Due.same("one row so far, k 2", join.addRow(1, 0, 0, 0), AcyclicJoin.OK);
        Due.same("dropRow, k 1", join.dropRow(0, 3, 7, -7), AcyclicJoin.OK);
        Due.same("it is gone, k 1", join.rowState(0, 3, 0, 0), AcyclicJoin.ABSENT);
        Due.same("dropRow, k 2", join.dropRow(1, 3, 1, 99), AcyclicJoin.OK);
        Due.same("it is gone, k 2", join.rowState(1, 3, 1, 0), AcyclicJoin.ABSENT);
    }
}
