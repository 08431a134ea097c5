/** All promises at once: long fixed runs of calls, each answered by the class and by the model of the document. */
public final class ModelTest {
    private static final int RUNS = 1500;
    private static final int CALLS = 120;
    private static final int[] WILD = {Integer.MIN_VALUE, -2, -1, 2, 3, 4, 5, 6, 7, 8, 64, Integer.MAX_VALUE};

    private long state;
    private final AcyclicJoin join;
    private final Model model;
    private final String name;
    private final int vars;
    private final int values;
    private int atoms = 0;

    private ModelTest(int run) {
        state = run;
        vars = 3 + pick(4);
        values = 2 + pick(3);
        int mostAtoms = 3 + pick(4);
        int mostRows = pick(3) == 0 ? 2 + pick(7) : 8;
        join = new AcyclicJoin(vars, values, mostAtoms, mostRows);
        model = new Model(vars, values, mostAtoms, mostRows);
        name = "run " + run + " (" + vars + ", " + values + ", " + mostAtoms + ", " + mostRows + ")";
    }

    public static void main(String[] args) {
        int ready = 0;
        int cyclic = 0;
        int answered = 0;
        for (int run = 0; run < RUNS && Due.wrongSoFar() < 20; run++) {
            ModelTest test = new ModelTest(run);
            test.load();
            for (int call = 0; call < CALLS && Due.wrongSoFar() < 20; call++) {
                test.step();
                if (call % 10 == 0) {
                    test.lookAtAll();
                }
                ready += test.model.phase() == AcyclicJoin.READY ? 1 : 0;
                cyclic += test.model.phase() == AcyclicJoin.CYCLIC ? 1 : 0;
                answered += test.model.count() > 1 ? 1 : 0;
            }
            test.lookAtAll();
        }
        // Runs that never reach a phase would compare nothing there.
        Due.yes("calls in READY", ready > RUNS * CALLS / 10);
        Due.yes("calls in CYCLIC", cyclic > RUNS * CALLS / 20);
        Due.yes("calls with several answers", answered > RUNS * CALLS / 20);
        Due.end();
    }

    /** A fixed row of numbers, the same in every run of the test. */
    private int pick(int bound) {
        state = state * 6364136223846793005L + 1442695040888963407L;
        return (int) ((state >>> 33) % bound);
    }

    private int oftenBelow(int bound) {
        return pick(25) == 0 ? WILD[pick(WILD.length)] : pick(bound);
    }

    private int anyAtom() {
        return oftenBelow(Math.max(1, atoms));
    }

    private int anyValue() {
        return oftenBelow(values);
    }

    private void same(String call, int got, int want) {
        Due.same(name + ": " + call, got, want);
    }

    private void addAtom() {
        int scope = pick(10) == 0 ? oftenBelow(1 << vars) : (1 << pick(vars)) | (1 << pick(vars));
        if (pick(4) == 0) {
            scope |= 1 << pick(vars);
        }
        int got = join.addAtom(scope);
        same("addAtom(" + scope + ")", got, model.addAtom(scope));
        atoms += got >= 0 ? 1 : 0;
    }

    private void addRow() {
        int atom = anyAtom();
        int x = anyValue();
        int y = anyValue();
        int z = anyValue();
        same("addRow(" + atom + ", " + x + ", " + y + ", " + z + ")",
                join.addRow(atom, x, y, z), model.addRow(atom, x, y, z));
    }

    private void dropRow() {
        int atom = anyAtom();
        int x = anyValue();
        int y = anyValue();
        int z = anyValue();
        same("dropRow(" + atom + ", " + x + ", " + y + ", " + z + ")",
                join.dropRow(atom, x, y, z), model.dropRow(atom, x, y, z));
    }

    private void load() {
        int wanted = 1 + pick(5);
        for (int i = 0; i < wanted; i++) {
            addAtom();
        }
        int rows = wanted * (2 + pick(9));
        for (int i = 0; i < rows; i++) {
            addRow();
        }
        same("compile()", join.compile(), model.compile());
    }

    private void step() {
        int cursor = oftenBelow(2);
        int variable = oftenBelow(vars);
        switch (pick(model.phase() == AcyclicJoin.READY ? 40 : 24)) {
            case 0: addAtom(); break;
            case 1: case 2: case 3: case 4: case 5: addRow(); break;
            case 6: case 7: dropRow(); break;
            case 8: case 9: same("compile()", join.compile(), model.compile()); break;
            case 10: same("reopen()", join.reopen(), model.reopen()); break;
            case 11: same("phase()", join.phase(), model.phase()); break;
            case 12: same("count()", join.count(), model.count()); break;
            case 13: same("residue()", join.residue(), model.residue()); break;
            case 14: same("rewind(" + cursor + ")", join.rewind(cursor), model.rewind(cursor)); break;
            case 15: case 16: case 17: case 18: lookAtOneAtom(); break;
            case 19: case 20:
                same("value(" + cursor + ", " + variable + ")",
                        join.value(cursor, variable), model.value(cursor, variable));
                break;
            case 21: case 22: case 23: case 24: case 25: case 26: case 27: case 28:
                same("skip(" + cursor + ", " + variable + ")",
                        join.skip(cursor, variable), model.skip(cursor, variable));
                break;
            default: same("next(" + cursor + ")", join.next(cursor), model.next(cursor)); break;
        }
        lookAtCursors();
    }

    private void lookAtOneAtom() {
        int atom = anyAtom();
        int x = anyValue();
        int y = anyValue();
        int z = anyValue();
        same("scope(" + atom + ")", join.scope(atom), model.scope(atom));
        same("live(" + atom + ")", join.live(atom), model.live(atom));
        same("residueOf(" + atom + ")", join.residueOf(atom), model.residueOf(atom));
        same("rowState(" + atom + ", " + x + ", " + y + ", " + z + ")",
                join.rowState(atom, x, y, z), model.rowState(atom, x, y, z));
    }

    private void lookAtCursors() {
        for (int cursor = 0; cursor < 2; cursor++) {
            for (int variable = 0; variable < vars; variable++) {
                same("value(" + cursor + ", " + variable + ")",
                        join.value(cursor, variable), model.value(cursor, variable));
            }
        }
    }

    private void lookAtAll() {
        same("phase()", join.phase(), model.phase());
        same("count()", join.count(), model.count());
        same("residue()", join.residue(), model.residue());
        for (int atom = 0; atom <= atoms; atom++) {
            same("scope(" + atom + ")", join.scope(atom), model.scope(atom));
            same("live(" + atom + ")", join.live(atom), model.live(atom));
            same("residueOf(" + atom + ")", join.residueOf(atom), model.residueOf(atom));
            for (int row = 0; row < 64; row++) {
                int x = row & 3;
                int y = (row >> 2) & 3;
                int z = row >> 4;
                same("rowState(" + atom + ", " + x + ", " + y + ", " + z + ")",
                        join.rowState(atom, x, y, z), model.rowState(atom, x, y, z));
            }
        }
    }
}
