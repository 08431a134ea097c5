import java.util.ArrayList;
import java.util.List;
import java.util.function.Supplier;

/** The queries and the states of an object that many tests start from. */
final class Queries {
    /** Makes a new object in one state, as often as it is asked. */
    record State(String name, Supplier<AcyclicJoin> maker) {
        AcyclicJoin make() {
            return maker.get();
        }
    }

    private static final int MIN = Integer.MIN_VALUE;
    private static final int MAX = Integer.MAX_VALUE;

    /** Small and great ints, with those that turn into small ones when multiplied, shifted or cut off. */
    static final int[] WILD = {
        MIN, MIN + 1, MIN + 2, MIN + 3, -(1 << 30), -(1 << 26), -65536, -4096, -256, -65, -64, -33, -32, -8, -7, -6,
        -5, -4, -3, -2, -1, 0, 1, 2, 3, 4, 5, 6, 7, 8, 9, 15, 16, 31, 32, 33, 34, 63, 64, 65, 127, 128, 255, 256, 257,
        4095, 4096, 4097, 65535, 65536, 65537, 1 << 24, 1 << 26, (1 << 26) + 1, 1 << 27, 1 << 28, (1 << 28) + 1,
        1 << 29, (1 << 29) + 1, 1 << 30, (1 << 30) + 1, (1 << 30) + 2, MAX - 2, MAX - 1, MAX};

    /** The answers of {@link #five} in their order. */
    static final int[][] FIVE = {{0, 1, 0, 2}, {0, 1, 0, 3}, {0, 2, 0, 0}, {3, 1, 0, 2}, {3, 1, 0, 3}};

    static final List<State> LOADING = List.of(
            new State("a fresh object", Queries::fresh),
            new State("a loaded query", Queries::five),
            new State("a loaded ring", Queries::ring),
            new State("a query with all its atoms", Queries::fullOfAtoms),
            new State("a query reopened from READY", () -> reopened(at(2, 6))),
            new State("a query reopened from CYCLIC", () -> reopened(afterCompile(ring()))));

    static final List<State> READY = List.of(
            new State("READY, both at the start", () -> at(0, 0)),
            new State("READY, at the start and on an answer", () -> at(0, 3)),
            new State("READY, both on answers", () -> at(2, 5)),
            new State("READY, on an answer and at the end", () -> at(4, 6)),
            new State("READY, at the end and at the start", () -> at(6, 0)),
            new State("READY, both at the end", () -> at(6, 6)),
            new State("READY without answers", () -> afterCompile(none())));

    static final List<State> CYCLIC = List.of(
            new State("CYCLIC", () -> afterCompile(ring())),
            new State("CYCLIC without rows", () -> compiled(24, 48, 40)),
            new State("CYCLIC after READY", Queries::closedAfterReady));

    static final List<State> ALL = join(LOADING, join(READY, CYCLIC));

    private Queries() {
    }

    static List<State> join(List<State> some, List<State> others) {
        List<State> all = new ArrayList<>(some);
        all.addAll(others);
        return all;
    }

    /** In LOADING, the greatest object there is, with atoms of these scopes and no rows. */
    static AcyclicJoin of(int... scopes) {
        AcyclicJoin join = new AcyclicJoin(6, 4, 6, 8);
        for (int scope : scopes) {
            join.addAtom(scope);
        }
        return join;
    }

    static AcyclicJoin compiled(int... scopes) {
        return afterCompile(of(scopes));
    }

    static AcyclicJoin fresh() {
        return new AcyclicJoin(4, 4, 4, 4);
    }

    /** In LOADING; variable 2 is not covered; atom 0 is full and its row (2, 3) will dangle, atom 1 has room for one. */
    static AcyclicJoin five() {
        AcyclicJoin join = fresh();
        join.addAtom(3);
        join.addAtom(10);
        join.addRow(0, 3, 1, 0);
        join.addRow(0, 0, 2, 0);
        join.addRow(0, 0, 1, 0);
        join.addRow(0, 2, 3, 0);
        join.addRow(1, 2, 0, 0);
        join.addRow(1, 1, 3, 0);
        join.addRow(1, 1, 2, 0);
        return join;
    }

    /** In LOADING; compile will find the residue 7. */
    static AcyclicJoin ring() {
        AcyclicJoin join = fresh();
        join.addAtom(3);
        join.addAtom(6);
        join.addAtom(5);
        join.addRow(0, 0, 0, 0);
        join.addRow(0, 1, 2, 0);
        join.addRow(0, 2, 1, 0);
        join.addRow(0, 3, 3, 0);
        join.addRow(1, 0, 0, 0);
        join.addRow(2, 0, 0, 0);
        return join;
    }

    /** In LOADING; an atom without rows leaves no answer. */
    static AcyclicJoin none() {
        AcyclicJoin join = five();
        join.addAtom(4);
        return join;
    }

    /** READY, after so many calls of next on each cursor. */
    static AcyclicJoin at(int stepsOf0, int stepsOf1) {
        AcyclicJoin join = afterCompile(five());
        for (int step = 0; step < stepsOf0; step++) {
            join.next(0);
        }
        for (int step = 0; step < stepsOf1; step++) {
            join.next(1);
        }
        return join;
    }

    static AcyclicJoin afterCompile(AcyclicJoin join) {
        join.compile();
        return join;
    }

    static AcyclicJoin reopened(AcyclicJoin join) {
        join.reopen();
        return join;
    }

    /** The cursor is on this assignment of {@link #five}. */
    static void isOn(AcyclicJoin join, int cursor, int[] answer) {
        for (int variable = 0; variable < answer.length; variable++) {
            Due.same("value(" + cursor + ", " + variable + ")", join.value(cursor, variable), answer[variable]);
        }
    }

    static void isAtStart(AcyclicJoin join, int cursor) {
        Due.same("value(" + cursor + ", 0)", join.value(cursor, 0), AcyclicJoin.AT_START);
    }

    static void isAtEnd(AcyclicJoin join, int cursor) {
        Due.same("value(" + cursor + ", 0)", join.value(cursor, 0), AcyclicJoin.AT_END);
    }

    /** Not a number from 0 to just below the bound. */
    static boolean outside(int given, int bound) {
        return given < 0 || given >= bound;
    }

    private static AcyclicJoin fullOfAtoms() {
        AcyclicJoin join = none();
        join.addAtom(14);
        return join;
    }

    private static AcyclicJoin closedAfterReady() {
        AcyclicJoin join = reopened(at(3, 6));
        join.addAtom(9);
        return afterCompile(join);
    }
}
