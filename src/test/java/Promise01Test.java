/** Promise 1: constructor and start. */
public final class Promise01Test {
    private static final int MIN = Integer.MIN_VALUE;
    private static final int MAX = Integer.MAX_VALUE;

    public static void main(String[] args) {
        Sentences.of("Promise 1: constructor and start")
                .holds("AcyclicJoin(int vars, int values, int atoms, int rows) accepts every int for each argument"
                        + " and clamps each (below the least becomes the least, above the greatest becomes the"
                        + " greatest):", Promise01Test::allFourAreClamped)
                .holds("V, the number of variables, is vars clamped into 3..6.", Promise01Test::variables)
                .holds("D, the number of values, is values clamped into 2..4.", Promise01Test::values)
                .holds("The greatest number of atoms is atoms clamped into 3..6.", Promise01Test::atoms)
                .holds("The greatest number of rows of each atom is rows clamped into 2..8.", Promise01Test::rows)
                .holds("These four numbers never change afterwards.", Promise01Test::neverChange)
                .holds("A fresh object is in phase LOADING, has no atoms, and both cursors are at the start.",
                        Promise01Test::fresh)
                .end();
        Due.end();
    }

    private static int clamped(int given, int least, int greatest) {
        return Math.max(least, Math.min(greatest, given));
    }

    private static void allFourAreClamped() {
        int[] some = {MIN, -1, 0, 2, 3, 4, 6, 7, 9, MAX};
        for (int vars : some) {
            for (int values : some) {
                for (int atoms : some) {
                    for (int rows : some) {
                        String name = "(" + vars + ", " + values + ", " + atoms + ", " + rows + ")";
                        AcyclicJoin join = new AcyclicJoin(vars, values, atoms, rows);
                        join.addAtom(7);
                        hasLimits(name, join, clamped(vars, 3, 6), clamped(values, 2, 4), clamped(atoms, 3, 6),
                                clamped(rows, 2, 8));
                    }
                }
            }
        }
    }

    /** The object is in LOADING, and atom 0 has the scope 7 and no rows. */
    private static void hasLimits(String name, AcyclicJoin join, int v, int d, int mostAtoms, int mostRows) {
        Due.same(name + " addAtom beyond V", join.addAtom(1 << v), AcyclicJoin.BAD);
        Due.same(name + " row beyond D", join.addRow(0, 0, 0, d), AcyclicJoin.BAD);
        int stored = 0;
        for (int row = 0; row < d * d * d; row++) {
            int due = stored < mostRows ? AcyclicJoin.OK : AcyclicJoin.FULL;
            Due.same(name + " addRow", join.addRow(0, row % d, row / d % d, row / d / d), due);
            stored++;
        }
        int atom = 0;
        while (join.scope(atom) != AcyclicJoin.BAD) {
            atom++;
        }
        while (atom < mostAtoms) {
            Due.same(name + " addAtom", join.addAtom(1 << (v - 1)), atom);
            atom++;
        }
        Due.same(name + " addAtom beyond the limit", join.addAtom(1), AcyclicJoin.FULL);
    }

    private static void variables() {
        for (int vars : Queries.WILD) {
            int v = clamped(vars, 3, 6);
            AcyclicJoin join = new AcyclicJoin(vars, 4, 6, 8);
            Due.same("vars " + vars + ": addAtom of variable V", join.addAtom(1 << v), AcyclicJoin.BAD);
            Due.same("vars " + vars + ": addAtom of variable V-1", join.addAtom(1 << (v - 1)), 0);
            join.addRow(0, 3, 0, 0);
            join.compile();
            Due.same("vars " + vars + ": skip of variable V", join.skip(0, v), AcyclicJoin.BAD);
            Due.same("vars " + vars + ": skip of variable V-1", join.skip(0, v - 1), AcyclicJoin.MOVED);
            Due.same("vars " + vars + ": value of variable V-1", join.value(0, v - 1), 3);
            Due.same("vars " + vars + ": value of variable V", join.value(0, v), AcyclicJoin.BAD);
        }
    }

    private static void values() {
        for (int values : Queries.WILD) {
            int d = clamped(values, 2, 4);
            for (int vars = 3; vars <= 6; vars++) {
                AcyclicJoin join = new AcyclicJoin(vars, values, 6, 8);
                join.addAtom(1 << (vars - 1));
                for (int value = 0; value < d; value++) {
                    Due.same("values " + values + ": row " + value, join.addRow(0, value, 0, 0), AcyclicJoin.OK);
                }
                Due.same("values " + values + ": row D", join.addRow(0, d, 0, 0), AcyclicJoin.BAD);
                join.compile();
                Due.same("values " + values + ": count", join.count(), d);
            }
        }
    }

    private static void atoms() {
        for (int atoms : Queries.WILD) {
            int most = clamped(atoms, 3, 6);
            AcyclicJoin join = new AcyclicJoin(6, 4, atoms, 8);
            for (int atom = 0; atom < most; atom++) {
                Due.same("atoms " + atoms + ": addAtom", join.addAtom(1 << atom), atom);
            }
            Due.same("atoms " + atoms + ": addAtom beyond", join.addAtom(1), AcyclicJoin.FULL);
        }
    }

    private static void rows() {
        for (int rows : Queries.WILD) {
            int most = clamped(rows, 2, 8);
            AcyclicJoin join = new AcyclicJoin(6, 4, 6, rows);
            for (int atom = 0; atom < 6; atom++) {
                join.addAtom(7 << (atom % 4));
            }
            // Each atom gets its rows in turn, so a limit on all rows together would show.
            for (int row = 0; row < most; row++) {
                for (int atom = 0; atom < 6; atom++) {
                    Due.same("rows " + rows + ": addRow", join.addRow(atom, row / 4, row % 4, 3), AcyclicJoin.OK);
                }
            }
            for (int atom = 0; atom < 6; atom++) {
                Due.same("rows " + rows + ": addRow beyond", join.addRow(atom, 3, 3, 3), AcyclicJoin.FULL);
            }
        }
    }

    private static void neverChange() {
        for (int v = 3; v <= 6; v++) {
            for (int d = 2; d <= 4; d++) {
                for (int more = 0; more < 4; more++) {
                    int mostAtoms = 3 + more;
                    int mostRows = 2 + 2 * more;
                    AcyclicJoin join = new AcyclicJoin(v, d, mostAtoms, mostRows);
                    useAll(join);
                    String name = "after use (" + v + ", " + d + ", " + mostAtoms + ", " + mostRows + ")";
                    Due.same(name + " scope", join.scope(0), 7);
                    hasLimits(name, join, v, d, mostAtoms, mostRows);
                    join.compile();
                    Due.same(name + " skip of variable V", join.skip(0, v), AcyclicJoin.BAD);
                    Due.yes(name + " skip of variable V-1", join.skip(0, v - 1) != AcyclicJoin.BAD);
                }
            }
        }
    }

    /** Goes through all phases with calls of all kinds, taken and refused, and leaves one atom of scope 7 empty. */
    private static void useAll(AcyclicJoin join) {
        join.addAtom(7);
        for (int round = 0; round < 3; round++) {
            for (int row = 0; row < 64; row++) {
                join.addRow(0, row & 3, row >> 2 & 3, row >> 4);
            }
            for (int wild : Queries.WILD) {
                join.addAtom(wild | 64);
                join.addRow(0, wild, wild, wild);
                join.rowState(wild, wild, wild, wild);
            }
            join.compile();
            for (int wild : Queries.WILD) {
                join.next(wild);
                join.skip(wild & 1, wild);
                join.rewind(wild);
                join.value(wild, wild);
            }
            join.reopen();
            for (int row = 0; row < 64; row++) {
                join.dropRow(0, row & 3, row >> 2 & 3, row >> 4);
            }
        }
        join.addAtom(3);
        join.addAtom(5);
        join.compile();
        join.residue();
        join.residueOf(1);
        join.reopen();
    }

    private static void fresh() {
        for (int size : new int[] {MIN, 0, 3, 4, 6, MAX}) {
            AcyclicJoin join = new AcyclicJoin(size, size, size, size);
            Due.same("fresh phase", join.phase(), AcyclicJoin.LOADING);
            for (int atom = 0; atom < 7; atom++) {
                Due.same("fresh scope(" + atom + ")", join.scope(atom), AcyclicJoin.BAD);
                Due.same("fresh rowState", join.rowState(atom, 0, 0, 0), AcyclicJoin.BAD);
            }
            Due.same("fresh compile", join.compile(), AcyclicJoin.EMPTY);
            Due.same("first addAtom", join.addAtom(1), 0);
            Due.same("a row of the first atom", join.rowState(0, 0, 0, 0), AcyclicJoin.ABSENT);
            join.addRow(0, 1, 0, 0);
            join.compile();
            Queries.isAtStart(join, 0);
            Queries.isAtStart(join, 1);
        }
    }
}
