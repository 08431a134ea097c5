import java.util.ArrayList;
import java.util.Arrays;
import java.util.List;

/** The words of the document taken one by one, with the Java library and without any cleverness. */
final class Model {
    private final int v;
    private final int d;
    private final int mostAtoms;
    private final int mostRows;
    private final List<Integer> scopes = new ArrayList<>();
    private final List<List<List<Integer>>> rows = new ArrayList<>();
    private int phase = 0;
    private int residue = 0;
    private List<int[]> answers = new ArrayList<>();

    /** What a cursor is on: null at the start, an empty array at the end, or an answer. */
    private final int[][] cursors = {null, null};
    private static final int[] END = {};

    Model(int vars, int values, int atoms, int rows) {
        v = Math.max(3, Math.min(6, vars));
        d = Math.max(2, Math.min(4, values));
        mostAtoms = Math.max(3, Math.min(6, atoms));
        mostRows = Math.max(2, Math.min(8, rows));
    }

    int addAtom(int scope) {
        if (phase != 0) return -1;
        if (scope < 1 || scope >= (1 << v) || Integer.bitCount(scope) > 3) return -2;
        if (scopes.size() == mostAtoms) return -3;
        scopes.add(scope);
        rows.add(new ArrayList<>());
        return scopes.size() - 1;
    }

    int addRow(int atom, int x, int y, int z) {
        if (phase != 0) return -1;
        if (badAtom(atom)) return -2;
        List<Integer> row = row(atom, x, y, z);
        if (badRow(row)) return -2;
        if (rows.get(atom).contains(row)) return -4;
        if (rows.get(atom).size() == mostRows) return -3;
        rows.get(atom).add(row);
        return 0;
    }

    int dropRow(int atom, int x, int y, int z) {
        if (phase != 0) return -1;
        if (badAtom(atom)) return -2;
        List<Integer> row = row(atom, x, y, z);
        if (badRow(row)) return -2;
        return rows.get(atom).remove(row) ? 0 : -5;
    }

    int compile() {
        if (phase != 0) return -1;
        if (scopes.isEmpty()) return -6;
        cursors[0] = null;
        cursors[1] = null;
        residue = unionOfStuckSets();
        phase = residue == 0 ? 1 : 2;
        answers = phase == 1 ? allAnswers() : new ArrayList<>();
        return phase;
    }

    int reopen() {
        if (phase == 0) return -1;
        phase = 0;
        return 0;
    }

    int phase() {
        return phase;
    }

    int scope(int atom) {
        return badAtom(atom) ? -2 : scopes.get(atom);
    }

    int residue() {
        return phase == 0 ? -1 : residue;
    }

    int residueOf(int atom) {
        if (phase == 0) return -1;
        if (badAtom(atom)) return -2;
        int own = scopes.get(atom) & residue;
        if (own == 0) return 0;
        for (int b = 0; b < scopes.size(); b++) {
            int p = scopes.get(b) & residue;
            if ((own & ~p) == 0 && p != own) return 0;
            if (b < atom && p == own) return 0;
        }
        return own;
    }

    int rowState(int atom, int x, int y, int z) {
        if (badAtom(atom)) return -2;
        List<Integer> row = row(atom, x, y, z);
        if (badRow(row)) return -2;
        if (!rows.get(atom).contains(row)) return -5;
        if (phase != 1) return 1;
        return isLive(atom, row) ? 2 : 3;
    }

    int live(int atom) {
        if (phase != 1) return -1;
        if (badAtom(atom)) return -2;
        int live = 0;
        for (List<Integer> row : rows.get(atom)) {
            live += isLive(atom, row) ? 1 : 0;
        }
        return live;
    }

    int count() {
        return phase != 1 ? -1 : answers.size();
    }

    int next(int cursor) {
        if (phase != 1) return -1;
        if (cursor != 0 && cursor != 1) return -2;
        return move(cursor, v - 1);
    }

    int skip(int cursor, int variable) {
        if (phase != 1) return -1;
        if (cursor != 0 && cursor != 1) return -2;
        if (variable < 0 || variable >= v) return -2;
        return move(cursor, variable);
    }

    int rewind(int cursor) {
        if (phase != 1) return -1;
        if (cursor != 0 && cursor != 1) return -2;
        cursors[cursor] = null;
        return 0;
    }

    int value(int cursor, int variable) {
        if (phase != 1) return -1;
        if (cursor != 0 && cursor != 1) return -2;
        if (variable < 0 || variable >= v) return -2;
        if (cursors[cursor] == null) return -7;
        if (cursors[cursor] == END) return -8;
        return cursors[cursor][variable];
    }

    private int move(int cursor, int variable) {
        int[] now = cursors[cursor];
        if (now == END) return -8;
        int[] target = null;
        for (int[] answer : answers) {
            boolean fits = now == null
                    || Arrays.compare(answer, now) > 0 && differs(answer, now, variable);
            if (fits && (target == null || Arrays.compare(answer, target) < 0)) {
                target = answer;
            }
        }
        cursors[cursor] = target == null ? END : target;
        return target == null ? -8 : 1;
    }

    private static boolean differs(int[] one, int[] other, int last) {
        for (int i = 0; i <= last; i++) {
            if (one[i] != other[i]) return true;
        }
        return false;
    }

    private boolean badAtom(int atom) {
        return atom < 0 || atom >= scopes.size();
    }

    private List<Integer> row(int atom, int x, int y, int z) {
        return List.of(x, y, z).subList(0, Integer.bitCount(scopes.get(atom)));
    }

    private boolean badRow(List<Integer> row) {
        for (int value : row) {
            if (value < 0 || value >= d) return true;
        }
        return false;
    }

    private boolean isLive(int atom, List<Integer> row) {
        for (int[] answer : answers) {
            if (part(atom, answer).equals(row)) return true;
        }
        return false;
    }

    private List<Integer> part(int atom, int[] assignment) {
        List<Integer> part = new ArrayList<>();
        for (int i = 0; i < v; i++) {
            if ((scopes.get(atom) >> i & 1) != 0) part.add(assignment[i]);
        }
        return part;
    }

    private int covered() {
        int covered = 0;
        for (int scope : scopes) covered |= scope;
        return covered;
    }

    private int unionOfStuckSets() {
        int union = 0;
        for (int s = 0; s < (1 << v); s++) {
            if ((s & ~covered()) == 0 && isStuck(s)) union |= s;
        }
        return union;
    }

    private boolean isStuck(int s) {
        for (int i = 0; i < v; i++) {
            if ((s >> i & 1) == 0) continue;
            int near = 0;
            for (int scope : scopes) {
                if ((scope >> i & 1) != 0) near |= scope & s;
            }
            for (int scope : scopes) {
                if ((near & ~scope) == 0) return false;
            }
        }
        return true;
    }

    /** In descending order, so that nothing can lean on the order in which they are found. */
    private List<int[]> allAnswers() {
        List<int[]> found = new ArrayList<>();
        int all = 1;
        for (int i = 0; i < v; i++) all *= d;
        for (int code = all - 1; code >= 0; code--) {
            int[] assignment = new int[v];
            int rest = code;
            for (int i = v - 1; i >= 0; i--) {
                assignment[i] = rest % d;
                rest /= d;
            }
            if (isAnswer(assignment)) found.add(assignment);
        }
        return found;
    }

    private boolean isAnswer(int[] assignment) {
        for (int i = 0; i < v; i++) {
            if ((covered() >> i & 1) == 0 && assignment[i] != 0) return false;
        }
        for (int atom = 0; atom < scopes.size(); atom++) {
            if (!rows.get(atom).contains(part(atom, assignment))) return false;
        }
        return true;
    }
}
