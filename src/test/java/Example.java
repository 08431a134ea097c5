/** The example of README.md. */
public final class Example {
    public static void main(String[] args) {
        // Three variables with the values 0 to 3, at most four atoms, at most five rows in each.
        AcyclicJoin join = new AcyclicJoin(3, 4, 4, 5);

        int first = join.addAtom(0b011);  // an atom over the variables 0 and 1
        int second = join.addAtom(0b110); // an atom over the variables 1 and 2
        join.addRow(first, 2, 1, 0);      // variable 0 is 2 and variable 1 is 1; the last argument is ignored
        join.addRow(first, 0, 1, 0);
        join.addRow(first, 3, 2, 0);
        join.addRow(second, 1, 0, 0);     // variable 1 is 1 and variable 2 is 0
        join.addRow(second, 1, 3, 0);

        if (join.compile() == AcyclicJoin.READY) {
            System.out.println("answers: " + join.count());
            while (join.next(0) == AcyclicJoin.MOVED) {
                System.out.println("  " + join.value(0, 0) + " " + join.value(0, 1) + " " + join.value(0, 2));
            }
            // The other cursor goes to the next answer with another value of variable 0.
            while (join.skip(1, 0) == AcyclicJoin.MOVED) {
                System.out.println("variable 0 can be " + join.value(1, 0));
            }
            System.out.println("live rows: " + join.live(first) + " and " + join.live(second));
            if (join.rowState(first, 3, 2, 0) == AcyclicJoin.DANGLING) {
                System.out.println("the row 3 2 is in no answer");
            }
        }

        join.reopen();                    // all atoms and rows stay
        join.addAtom(0b101);              // now the three atoms are a ring
        if (join.compile() == AcyclicJoin.CYCLIC) {
            System.out.println("cyclic, residue " + Integer.toBinaryString(join.residue()));
        }
    }
}
