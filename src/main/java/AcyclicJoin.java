/** Evaluates small conjunctive queries; the numbered promises of DOC.md say what each call does. */
public final class AcyclicJoin {
    public static final int OK = 0;
    public static final int MOVED = 1;

    public static final int WRONG_PHASE = -1;
    public static final int BAD = -2;
    public static final int FULL = -3;
    public static final int DUPLICATE = -4;
    public static final int ABSENT = -5;
    public static final int EMPTY = -6;
    public static final int AT_START = -7;
    public static final int AT_END = -8;

    public static final int LOADING = 0;
    public static final int READY = 1;
    public static final int CYCLIC = 2;

    public static final int STORED = 1;
    public static final int LIVE = 2;
    public static final int DANGLING = 3;

    private static final int MOST_VARIABLES = 6;
    private static final int MOST_ATOMS = 6;
    private static final int MOST_SCOPE_SIZE = 3;
    private static final int CURSORS = 2;

    private static final int VALUE_BITS = 2;
    private static final int VALUE_MASK = 3;

    // A row is a number of up to three values, so each atom has 64 slots for its rows.
    private static final int SLOTS_PER_ATOM = 64;
    private static final int SLOTS = 384;
    private static final int NO_SLOT = -1;

    // An assignment is a number of six values with variable 0 in the highest bits, so that
    // the order of the numbers is the lexicographic order of the assignments. There are six
    // whatever V is: the missing variables are never covered, so they are 0 in every answer.
    private static final int ASSIGNMENTS = 4096;
    private static final int FIRST_SHIFT = 10;

    // A cursor's position is the assignment it is on, or the number just outside their range.
    private static final int BEFORE_FIRST = -1;
    private static final int AFTER_LAST = 4096;

    private final int variableCount;
    private final int valueCount;
    private final int atomLimit;
    private final int rowLimit;

    private final int[] scopes = new int[MOST_ATOMS];
    private final boolean[] storedRows = new boolean[SLOTS];
    private int atomCount;
    private int currentPhase;

    // Found by compile, and stale elsewhere: no call reads the residue in LOADING, nor the answers
    // and the live rows outside READY.
    private int residueMask;
    private final boolean[] answers = new boolean[ASSIGNMENTS];
    private final boolean[] liveRows = new boolean[SLOTS];

    private final int[] positions = new int[CURSORS];

    public AcyclicJoin(int vars, int values, int atoms, int rows) {
        variableCount = clamp(vars, 3, MOST_VARIABLES);
        valueCount = clamp(values, 2, 4);
        atomLimit = clamp(atoms, 3, MOST_ATOMS);
        rowLimit = clamp(rows, 2, 8);
        atomCount = 0;
        currentPhase = LOADING;
        residueMask = 0;
        putCursorsAtStart();
    }

    public int addAtom(int scope) {
        if (currentPhase != LOADING) {
            return WRONG_PHASE;
        }
        if (isBadScope(scope)) {
            return BAD;
        }
        if (atomCount >= atomLimit) {
            return FULL;
        }
        int atom = atomCount;
        scopes[atom] = scope;
        atomCount = atom + 1;
        return atom;
    }

    public int addRow(int atom, int x, int y, int z) {
        if (currentPhase != LOADING) {
            return WRONG_PHASE;
        }
        if (isBadAtom(atom)) {
            return BAD;
        }
        int slot = slotOfRow(atom, x, y, z);
        if (slot == NO_SLOT) {
            return BAD;
        }
        if (storedRows[slot]) {
            return DUPLICATE;
        }
        if (rowsMarked(storedRows, atom) >= rowLimit) {
            return FULL;
        }
        storedRows[slot] = true;
        return OK;
    }

    public int dropRow(int atom, int x, int y, int z) {
        if (currentPhase != LOADING) {
            return WRONG_PHASE;
        }
        if (isBadAtom(atom)) {
            return BAD;
        }
        int slot = slotOfRow(atom, x, y, z);
        if (slot == NO_SLOT) {
            return BAD;
        }
        if (!storedRows[slot]) {
            return ABSENT;
        }
        storedRows[slot] = false;
        return OK;
    }

    public int compile() {
        if (currentPhase != LOADING) {
            return WRONG_PHASE;
        }
        if (atomCount == 0) {
            return EMPTY;
        }
        putCursorsAtStart();
        int covered = coveredVariables();
        residueMask = residueWithin(covered);
        if (residueMask != 0) {
            currentPhase = CYCLIC;
        } else {
            findAnswers(covered);
            currentPhase = READY;
        }
        return currentPhase;
    }

    public int reopen() {
        if (currentPhase == LOADING) {
            return WRONG_PHASE;
        }
        currentPhase = LOADING;
        return OK;
    }

    public int phase() {
        return currentPhase;
    }

    public int scope(int atom) {
        if (isBadAtom(atom)) {
            return BAD;
        }
        return scopes[atom];
    }

    public int residue() {
        if (currentPhase == LOADING) {
            return WRONG_PHASE;
        }
        return residueMask;
    }

    public int residueOf(int atom) {
        if (currentPhase == LOADING) {
            return WRONG_PHASE;
        }
        if (isBadAtom(atom)) {
            return BAD;
        }
        int part = scopes[atom] & residueMask;
        for (int other = 0; other < atomCount; other++) {
            int otherPart = scopes[other] & residueMask;
            boolean coversPart = (otherPart & part) == part;
            if (coversPart && (otherPart != part || other < atom)) {
                return 0;
            }
        }
        return part;
    }

    public int rowState(int atom, int x, int y, int z) {
        if (isBadAtom(atom)) {
            return BAD;
        }
        int slot = slotOfRow(atom, x, y, z);
        if (slot == NO_SLOT) {
            return BAD;
        }
        if (!storedRows[slot]) {
            return ABSENT;
        }
        if (currentPhase != READY) {
            return STORED;
        }
        return liveRows[slot] ? LIVE : DANGLING;
    }

    public int live(int atom) {
        if (currentPhase != READY) {
            return WRONG_PHASE;
        }
        if (isBadAtom(atom)) {
            return BAD;
        }
        return rowsMarked(liveRows, atom);
    }

    public int count() {
        if (currentPhase != READY) {
            return WRONG_PHASE;
        }
        int found = 0;
        for (int assignment = 0; assignment < ASSIGNMENTS; assignment++) {
            if (answers[assignment]) {
                found++;
            }
        }
        return found;
    }

    public int next(int cursor) {
        if (currentPhase != READY) {
            return WRONG_PHASE;
        }
        if (isBadCursor(cursor)) {
            return BAD;
        }
        int position = positions[cursor];
        if (position == AFTER_LAST) {
            return AT_END;
        }
        // BEFORE_FIRST lies one below the first assignment, so the start needs no case of its own.
        return moveToAnswerFrom(cursor, position + 1);
    }

    public int skip(int cursor, int variable) {
        if (currentPhase != READY) {
            return WRONG_PHASE;
        }
        if (isBadCursor(cursor)) {
            return BAD;
        }
        if (isBadVariable(variable)) {
            return BAD;
        }
        int position = positions[cursor];
        if (position == AFTER_LAST) {
            return AT_END;
        }
        if (position == BEFORE_FIRST) {
            return moveToAnswerFrom(cursor, 0);
        }
        // A greater answer that differs in 0 .. variable has a greater number made of these
        // variables alone, and the least assignment with the next such number has zeros behind it.
        int shift = FIRST_SHIFT - variable * VALUE_BITS;
        int prefix = position >> shift;
        return moveToAnswerFrom(cursor, (prefix + 1) << shift);
    }

    public int rewind(int cursor) {
        if (currentPhase != READY) {
            return WRONG_PHASE;
        }
        if (isBadCursor(cursor)) {
            return BAD;
        }
        positions[cursor] = BEFORE_FIRST;
        return OK;
    }

    public int value(int cursor, int variable) {
        if (currentPhase != READY) {
            return WRONG_PHASE;
        }
        if (isBadCursor(cursor)) {
            return BAD;
        }
        if (isBadVariable(variable)) {
            return BAD;
        }
        int position = positions[cursor];
        if (position == BEFORE_FIRST) {
            return AT_START;
        }
        if (position == AFTER_LAST) {
            return AT_END;
        }
        return valueIn(position, variable);
    }

    private static int clamp(int given, int least, int greatest) {
        if (given < least) {
            return least;
        }
        if (given > greatest) {
            return greatest;
        }
        return given;
    }

    private static boolean contains(int mask, int variable) {
        return (mask & (1 << variable)) != 0;
    }

    private static int sizeOf(int mask) {
        int size = 0;
        for (int variable = 0; variable < MOST_VARIABLES; variable++) {
            if (contains(mask, variable)) {
                size++;
            }
        }
        return size;
    }

    private static int valueIn(int assignment, int variable) {
        int shift = FIRST_SHIFT - variable * VALUE_BITS;
        return (assignment >> shift) & VALUE_MASK;
    }

    private boolean isBadScope(int scope) {
        // The range comes first because sizeOf looks at the lowest six bits alone.
        return scope < 1 || scope >= (1 << variableCount) || sizeOf(scope) > MOST_SCOPE_SIZE;
    }

    private boolean isBadAtom(int atom) {
        return atom < 0 || atom >= atomCount;
    }

    private static boolean isBadCursor(int cursor) {
        return cursor < 0 || cursor >= CURSORS;
    }

    private boolean isBadVariable(int variable) {
        return variable < 0 || variable >= variableCount;
    }

    private boolean isBadValue(int value) {
        return value < 0 || value >= valueCount;
    }

    // An ignored argument leaves its bits 0, so calls that differ only there get the same slot.
    private int slotOfRow(int atom, int x, int y, int z) {
        int size = sizeOf(scopes[atom]);
        if (isBadValue(x)) {
            return NO_SLOT;
        }
        int row = x;
        if (size > 1) {
            if (isBadValue(y)) {
                return NO_SLOT;
            }
            row = row | (y << VALUE_BITS);
        }
        if (size > 2) {
            if (isBadValue(z)) {
                return NO_SLOT;
            }
            row = row | (z << (2 * VALUE_BITS));
        }
        return atom * SLOTS_PER_ATOM + row;
    }

    private int slotOfAssignment(int atom, int assignment) {
        int row = 0;
        int shift = 0;
        for (int variable = 0; variable < MOST_VARIABLES; variable++) {
            if (contains(scopes[atom], variable)) {
                row = row | (valueIn(assignment, variable) << shift);
                shift = shift + VALUE_BITS;
            }
        }
        return atom * SLOTS_PER_ATOM + row;
    }

    private static int rowsMarked(boolean[] marks, int atom) {
        int first = atom * SLOTS_PER_ATOM;
        int marked = 0;
        for (int row = 0; row < SLOTS_PER_ATOM; row++) {
            if (marks[first + row]) {
                marked++;
            }
        }
        return marked;
    }

    private void putCursorsAtStart() {
        for (int cursor = 0; cursor < CURSORS; cursor++) {
            positions[cursor] = BEFORE_FIRST;
        }
    }

    private int coveredVariables() {
        int covered = 0;
        for (int atom = 0; atom < atomCount; atom++) {
            covered = covered | scopes[atom];
        }
        return covered;
    }

    // A variable that can leave a set is in no stuck part of it, since a smaller set only has
    // smaller neighbourhoods. So what is left when none can leave is the union of all stuck sets.
    private int residueWithin(int covered) {
        int kept = covered;
        // Every round but the last takes a variable out, so as many rounds as variables are enough.
        for (int round = 0; round < MOST_VARIABLES; round++) {
            for (int variable = 0; variable < MOST_VARIABLES; variable++) {
                if (contains(kept, variable) && canLeave(kept, variable)) {
                    kept = kept & ~(1 << variable);
                }
            }
        }
        return kept;
    }

    private boolean canLeave(int kept, int variable) {
        int neighbours = neighboursWithin(kept, variable);
        for (int atom = 0; atom < atomCount; atom++) {
            if ((scopes[atom] & neighbours) == neighbours) {
                return true;
            }
        }
        return false;
    }

    private int neighboursWithin(int kept, int variable) {
        int neighbours = 0;
        for (int atom = 0; atom < atomCount; atom++) {
            if (contains(scopes[atom], variable)) {
                neighbours = neighbours | (scopes[atom] & kept);
            }
        }
        return neighbours;
    }

    private void findAnswers(int covered) {
        for (int slot = 0; slot < SLOTS; slot++) {
            liveRows[slot] = false;
        }
        for (int assignment = 0; assignment < ASSIGNMENTS; assignment++) {
            answers[assignment] = isAnswer(assignment, covered);
            if (answers[assignment]) {
                markLiveRows(assignment);
            }
        }
    }

    private boolean isAnswer(int assignment, int covered) {
        for (int variable = 0; variable < MOST_VARIABLES; variable++) {
            if (!contains(covered, variable) && valueIn(assignment, variable) != 0) {
                return false;
            }
        }
        for (int atom = 0; atom < atomCount; atom++) {
            int slot = slotOfAssignment(atom, assignment);
            if (!storedRows[slot]) {
                return false;
            }
        }
        return true;
    }

    private void markLiveRows(int assignment) {
        for (int atom = 0; atom < atomCount; atom++) {
            int slot = slotOfAssignment(atom, assignment);
            liveRows[slot] = true;
        }
    }

    private int moveToAnswerFrom(int cursor, int from) {
        for (int assignment = from; assignment < ASSIGNMENTS; assignment++) {
            if (answers[assignment]) {
                positions[cursor] = assignment;
                return MOVED;
            }
        }
        positions[cursor] = AFTER_LAST;
        return AT_END;
    }
}
