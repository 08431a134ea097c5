/** The terms for the residue. */
public final class TermsResidueTest {
    public static void main(String[] args) {
        Sentences.of("Residue")
                .holds("For a set S of covered variables and v in S, let N(S,v) be the set of all w in S such that some"
                        + " atom has both v and w in its scope (v itself is in N(S,v)).", TermsResidueTest::neighbours)
                .holds("S is stuck iff for each v in S there is no atom whose scope contains all of N(S,v).",
                        TermsResidueTest::stuck)
                .holds("The empty set is stuck.", TermsResidueTest::emptySet)
                .holds("The union of stuck sets is stuck.", TermsResidueTest::union)
                .holds("The residue R is the union of all stuck sets.", TermsResidueTest::residue)
                .holds("The query is cyclic iff R is not empty.", TermsResidueTest::cyclic)
                .holds("Rows play no part in this.", TermsResidueTest::rows)
                .end();
        Due.end();
    }

    private static void isDue(String name, int residue, int... scopes) {
        Due.same("residue of " + name, Queries.compiled(scopes).residue(), residue);
    }

    private static void neighbours() {
        isDue("a ring, where each has two neighbours", 7, 3, 6, 5);
        isDue("an open path, where the ends have one", 0, 3, 6, 12);
        // The neighbours of variable 3 are 1 and 2 in one atom: it leaves, and so the ring stays alone.
        isDue("a ring with a wide atom on one side", 7, 3, 14, 5);
        // Neighbours come from several atoms: 0 has 1, 2 and 3, and no atom contains them all.
        isDue("three of the four faces of a solid", 15, 7, 11, 13);
        isDue("an atom of one variable adds no neighbour", 7, 3, 6, 5, 1, 2, 4);
        isDue("variables that are not covered are nobody's neighbours", 42, 10, 40, 34);
    }

    private static void stuck() {
        isDue("a ring of three", 7, 3, 6, 5);
        isDue("a ring of three with a lid", 0, 3, 6, 5, 7);
        isDue("a ring of four", 15, 3, 6, 12, 9);
        isDue("a ring of four with one chord covered", 0, 3, 6, 12, 9, 7, 13);
        isDue("a ring of four with half of it covered", 13, 3, 6, 12, 9, 7);
        isDue("a ring of five", 31, 3, 6, 12, 24, 17);
        isDue("a ring of six", 63, 3, 6, 12, 24, 48, 33);
        isDue("four faces of a solid", 15, 7, 11, 13, 14);
        isDue("a ring of wide atoms", 21, 7, 28, 49);
        // The atom that contains N(S,v) may have variables outside S.
        isDue("a ring of wide atoms with the middle", 0, 7, 28, 49, 21);
    }

    private static void emptySet() {
        isDue("one atom", 0, 7);
        isDue("one variable", 0, 32);
        isDue("two atoms apart", 0, 7, 56);
        isDue("six atoms apart", 0, 1, 2, 4, 8, 16, 32);
        isDue("the same atom six times", 0, 41, 41, 41, 41, 41, 41);
    }

    private static void union() {
        isDue("two rings apart", 63, 3, 6, 5, 24, 48, 40);
        isDue("two rings with a common variable", 31, 3, 6, 5, 12, 24, 20);
        isDue("two rings with a common side", 15, 3, 6, 5, 10, 12);
        isDue("a ring and a covered ring", 7, 3, 6, 5, 56, 24);
    }

    private static void residue() {
        isDue("a ring with a tail", 7, 3, 6, 5, 12, 24);
        isDue("a ring of the last three with a tail", 56, 24, 48, 40, 12, 6, 3);
        isDue("a path whose ends are its middle numbers", 0, 33, 34, 18, 20, 12);
        sameAsTheModelOverFourVariables();
        sameAsTheModelOverSixVariables();
    }

    private static void sameAsTheModel(int v, int[] scopes) {
        AcyclicJoin join = new AcyclicJoin(v, 2, 6, 2);
        Model model = new Model(v, 2, 6, 2);
        StringBuilder name = new StringBuilder();
        for (int scope : scopes) {
            join.addAtom(scope);
            model.addAtom(scope);
            name.append(' ').append(scope);
        }
        Due.same("compile of" + name, join.compile(), model.compile());
        Due.same("residue of" + name, join.residue(), model.residue());
        for (int atom = 0; atom < scopes.length; atom++) {
            Due.same("residueOf(" + atom + ") of" + name, join.residueOf(atom), model.residueOf(atom));
        }
    }

    /** Every set of up to six scopes. */
    private static void sameAsTheModelOverFourVariables() {
        for (int choice = 1; choice < 1 << 14; choice++) {
            int size = Integer.bitCount(choice);
            if (size <= 6) {
                int[] scopes = new int[size];
                int place = 0;
                for (int scope = 1; scope <= 14; scope++) {
                    if ((choice >> (scope - 1) & 1) != 0) {
                        scopes[place] = scope;
                        place++;
                    }
                }
                sameAsTheModel(4, scopes);
            }
        }
    }

    /** A fixed choice of the many sets of three to six scopes of two or three variables. */
    private static void sameAsTheModelOverSixVariables() {
        long state = 1;
        for (int time = 0; time < 20000; time++) {
            int[] scopes = new int[3 + time % 4];
            for (int place = 0; place < scopes.length; place++) {
                while (Integer.bitCount(scopes[place]) < 2 || Integer.bitCount(scopes[place]) > 3) {
                    state = state * 6364136223846793005L + 1442695040888963407L;
                    scopes[place] = (int) (state >>> 58);
                }
            }
            sameAsTheModel(6, scopes);
        }
    }

    private static void cyclic() {
        for (int[] scopes : new int[][] {{3, 6, 5}, {3, 6, 5, 12}, {7, 28, 49}, {3, 6, 12, 24, 48, 33}}) {
            AcyclicJoin join = Queries.of(scopes);
            Due.same("compile", join.compile(), AcyclicJoin.CYCLIC);
            Due.yes("a residue that is not empty", join.residue() != 0);
        }
        for (int[] scopes : new int[][] {{3, 6}, {3, 6, 5, 7}, {7, 28, 49, 21}, {3, 6, 12, 24, 48}, {1}}) {
            AcyclicJoin join = Queries.of(scopes);
            Due.same("compile", join.compile(), AcyclicJoin.READY);
            Due.same("residue", join.residue(), 0);
        }
    }

    private static void rows() {
        for (int filled = 0; filled < 16; filled++) {
            AcyclicJoin ring = Queries.of(3, 6, 5, 12);
            AcyclicJoin lid = Queries.of(3, 6, 5, 7);
            for (int atom = 0; atom < 4; atom++) {
                if ((filled >> atom & 1) != 0) {
                    ring.addRow(atom, 1, 2, 3);
                    lid.addRow(atom, 0, 0, 0);
                }
            }
            ring.compile();
            lid.compile();
            Due.same("residue with rows in " + filled, ring.residue(), 7);
            Due.same("residueOf(0) with rows in " + filled, ring.residueOf(0), 3);
            Due.same("residueOf(3) with rows in " + filled, ring.residueOf(3), 0);
            Due.same("residue of the ring with a lid, rows in " + filled, lid.residue(), 0);
        }
    }
}
