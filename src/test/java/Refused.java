import java.util.List;
import java.util.function.Supplier;

/** The refusals that several promises share: a wrong phase, and the bad arguments. */
final class Refused {
    interface Call {
        int on(AcyclicJoin join);
    }

    interface CallWithOne {
        int on(AcyclicJoin join, int argument);
    }

    interface CallWithTwo {
        int on(AcyclicJoin join, int cursor, int variable);
    }

    interface RowCall {
        int on(AcyclicJoin join, int atom, int x, int y, int z);
    }

    private Refused() {
    }

    /** WRONG_PHASE, and no change, in the one list of states, and not in the other. */
    static void inWrongPhase(String name, List<Queries.State> wrong, List<Queries.State> right, Call call) {
        for (Queries.State state : wrong) {
            Due.same(state.name() + ": " + name, call.on(state.make()), AcyclicJoin.WRONG_PHASE);
            Story.unchanged(state.name() + ": " + name, state.maker(), call::on);
        }
        for (Queries.State state : right) {
            Due.yes(state.name() + ": " + name + " is not in the wrong phase",
                    call.on(state.make()) != AcyclicJoin.WRONG_PHASE);
        }
    }

    /** Every cursor with every variable of five, where the call wants READY. */
    static void inWrongPhase(String name, CallWithTwo call) {
        for (int cursor = 0; cursor < 2; cursor++) {
            for (int variable = 0; variable < 4; variable++) {
                int first = cursor;
                int second = variable;
                inWrongPhase(name + "(" + cursor + ", " + variable + ")",
                        Queries.join(Queries.LOADING, Queries.CYCLIC), Queries.READY,
                        join -> call.on(join, first, second));
            }
        }
    }

    /** In the wrong phase WRONG_PHASE comes before BAD, and in READY BAD before what the cursor's place says. */
    static void comesInOrder(String name, CallWithTwo call) {
        for (int bad : new int[] {Integer.MIN_VALUE, -1, 4, Integer.MAX_VALUE}) {
            for (Queries.State state : Queries.join(Queries.LOADING, Queries.CYCLIC)) {
                hasBad(state, name, call, bad, AcyclicJoin.WRONG_PHASE);
            }
            for (Queries.State state : Queries.READY) {
                hasBad(state, name, call, bad, AcyclicJoin.BAD);
            }
        }
    }

    private static void hasBad(Queries.State state, String name, CallWithTwo call, int bad, int due) {
        String what = state.name() + ": " + name;
        Due.same(what + " of a bad cursor", call.on(state.make(), bad, 0), due);
        Due.same(what + " of a bad variable", call.on(state.make(), 0, bad), due);
        Due.same(what + " of a bad variable", call.on(state.make(), 1, bad), due);
        Due.same(what + " of both bad", call.on(state.make(), bad, bad), due);
    }

    /** BAD for the atom indexes that are bad and for no other, with every number of atoms. */
    static void badAtoms(String name, boolean compiled, CallWithOne call) {
        for (int atoms = compiled ? 1 : 0; atoms <= 6; atoms++) {
            int added = atoms;
            Supplier<AcyclicJoin> maker = () -> alike(added, compiled);
            for (int atom : Queries.WILD) {
                boolean bad = Queries.outside(atom, atoms);
                int answer = call.on(maker.get(), atom);
                Due.same(atoms + " atoms, " + name + " of atom " + atom + " is BAD",
                        answer == AcyclicJoin.BAD ? 1 : 0, bad ? 1 : 0);
                if (bad) {
                    Story.unchanged(atoms + " atoms, " + name + " of atom " + atom, maker,
                            join -> call.on(join, atom));
                }
            }
        }
    }

    /** Atoms of three variables, each with the row (1, 1, 1). */
    private static AcyclicJoin alike(int atoms, boolean compiled) {
        AcyclicJoin join = Queries.of();
        for (int atom = 0; atom < atoms; atom++) {
            join.addAtom(7);
            join.addRow(atom, 1, 1, 1);
        }
        return compiled ? Queries.afterCompile(join) : join;
    }

    /** BAD for a bad value at a place that is not ignored, and for no other, with every D and every k. */
    static void badValues(String name, boolean compiled, RowCall call) {
        for (int d = 2; d <= 4; d++) {
            for (int k = 1; k <= 3; k++) {
                int values = d;
                int size = k;
                Supplier<AcyclicJoin> maker = () -> single(values, size, compiled);
                for (int place = 0; place < 3; place++) {
                    for (int value : Queries.WILD) {
                        int[] row = {1, 1, 1};
                        row[place] = value;
                        boolean bad = place < k && Queries.outside(value, d);
                        badValue("D " + d + ", k " + k + ": " + name, maker, call, row, bad);
                    }
                }
            }
        }
    }

    private static void badValue(String name, Supplier<AcyclicJoin> maker, RowCall call, int[] row, boolean bad) {
        int answer = call.on(maker.get(), 0, row[0], row[1], row[2]);
        String what = name + "(0, " + row[0] + ", " + row[1] + ", " + row[2] + ")";
        Due.same(what + " is BAD", answer == AcyclicJoin.BAD ? 1 : 0, bad ? 1 : 0);
        if (bad) {
            Story.unchanged(what, maker, join -> call.on(join, 0, row[0], row[1], row[2]));
        }
    }

    /** One atom of k variables with the rows of ones and of zeros. */
    private static AcyclicJoin single(int d, int k, boolean compiled) {
        int[] scopes = {8, 18, 37};
        AcyclicJoin join = new AcyclicJoin(6, d, 3, 8);
        join.addAtom(scopes[k - 1]);
        join.addRow(0, 0, 0, 0);
        join.addRow(0, 1, 1, 1);
        return compiled ? Queries.afterCompile(join) : join;
    }

    /** BAD for every cursor but 0 and 1, wherever these are. */
    static void badCursors(String name, CallWithOne call) {
        for (Queries.State state : Queries.READY) {
            for (int cursor : Queries.WILD) {
                boolean bad = cursor != 0 && cursor != 1;
                String what = state.name() + ": " + name + " of cursor " + cursor;
                int answer = call.on(state.make(), cursor);
                Due.same(what + " is BAD", answer == AcyclicJoin.BAD ? 1 : 0, bad ? 1 : 0);
                if (bad) {
                    Story.unchanged(what, state.maker(), join -> call.on(join, cursor));
                }
            }
        }
    }

    /** BAD for the variables that are bad and for no other, with every V and wherever the cursor is. */
    static void badVariables(String name, CallWithTwo call) {
        for (int v = 3; v <= 6; v++) {
            for (int steps = 0; steps <= 3; steps++) {
                int vars = v;
                int nexts = steps;
                Supplier<AcyclicJoin> maker = () -> walked(vars, nexts);
                for (int variable : Queries.WILD) {
                    boolean bad = Queries.outside(variable, v);
                    String what = "V " + v + " after " + steps + " steps: " + name + "(1, " + variable + ")";
                    int answer = call.on(maker.get(), 1, variable);
                    Due.same(what + " is BAD", answer == AcyclicJoin.BAD ? 1 : 0, bad ? 1 : 0);
                    if (bad) {
                        Story.unchanged(what, maker, join -> call.on(join, 1, variable));
                    }
                }
            }
        }
    }

    /** Two answers; cursor 1 is at the start, on one of them or, after three steps, at the end. */
    private static AcyclicJoin walked(int v, int steps) {
        AcyclicJoin join = new AcyclicJoin(v, 4, 3, 4);
        join.addAtom(5);
        join.addRow(0, 1, 2, 0);
        join.addRow(0, 3, 0, 0);
        join.compile();
        for (int step = 0; step < steps; step++) {
            join.next(1);
        }
        return join;
    }
}
