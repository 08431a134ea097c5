/** Promise 15: skip. */
public final class Promise15Test {
    public static void main(String[] args) {
        Sentences.of("Promise 15: skip")
                .holds("skip(cursor, variable), conditions in order:", Promise15Test::order)
                .holds("Not in READY: WRONG_PHASE.", Promise15Test::wrongPhase)
                .holds("Bad cursor: BAD.", Promise15Test::badCursor)
                .holds("Bad variable: BAD.", Promise15Test::badVariable)
                .holds("The cursor is at the end: AT_END (it stays there).", Promise15Test::atEnd)
                .holds("Otherwise there may be a target: from the start, the target is the first answer of the"
                        + " query, whichever variable is given;", Promise15Test::fromTheStart)
                .holds("from an answer, the target is the least answer that is greater and that differs from the"
                        + " present one in the value of at least one of the variables 0 .. variable.",
                        Promise15Test::fromAnAnswer)
                .holds("If there is a target, the cursor is put on it and MOVED is answered.", Promise15Test::moved)
                .holds("If there is none, the cursor is put at the end and AT_END is answered.",
                        Promise15Test::noTarget)
                .holds("With variable equal to V-1 the target is the same as that of next.",
                        Promise15Test::lastVariable)
                .holds("If none of the variables 0 .. variable is covered, there is no target from an answer.",
                        Promise15Test::noneCovered)
                .holds("The variable may be covered or not.", Promise15Test::coveredOrNot)
                .holds("The other cursor, the atoms, the rows and the phase do not change.",
                        Promise15Test::othersStay)
                .end();
        Due.end();
    }

    private static void order() {
        Refused.comesInOrder("skip", AcyclicJoin::skip);
        Due.same("WRONG_PHASE before AT_END", Queries.reopened(Queries.at(6, 6)).skip(0, 0), AcyclicJoin.WRONG_PHASE);
    }

    private static void wrongPhase() {
        Refused.inWrongPhase("skip", AcyclicJoin::skip);
    }

    private static void badCursor() {
        Refused.badCursors("skip", (join, cursor) -> join.skip(cursor, 0));
        Refused.badCursors("skip", (join, cursor) -> join.skip(cursor, 3));
    }

    private static void badVariable() {
        Refused.badVariables("skip", AcyclicJoin::skip);
    }

    private static void atEnd() {
        for (int cursor = 0; cursor < 2; cursor++) {
            int moved = cursor;
            AcyclicJoin join = Queries.at(6, 6);
            for (int variable = 0; variable < 4; variable++) {
                int last = variable;
                Due.same("skip at the end", join.skip(cursor, variable), AcyclicJoin.AT_END);
                Queries.isAtEnd(join, cursor);
                Story.unchanged("skip at the end", () -> Queries.at(6, 6), other -> other.skip(moved, last));
            }
        }
        Story.unchanged("skip at the end", () -> Queries.at(6, 2), join -> join.skip(0, 0));
        Story.unchanged("skip at the end", () -> Queries.at(0, 6), join -> join.skip(1, 0));
    }

    private static void fromTheStart() {
        for (int cursor = 0; cursor < 2; cursor++) {
            for (int variable = 0; variable < 4; variable++) {
                AcyclicJoin join = Queries.at(0, 0);
                join.skip(cursor, variable);
                Queries.isOn(join, cursor, Queries.FIVE[0]);
                join.rewind(cursor);
                join.skip(cursor, variable);
                Queries.isOn(join, cursor, Queries.FIVE[0]);
            }
        }
        for (int variable = 0; variable < 6; variable++) {
            AcyclicJoin greatest = Queries.of(7, 56);
            greatest.addRow(0, 3, 3, 3);
            greatest.addRow(1, 3, 3, 3);
            greatest.compile();
            greatest.skip(0, variable);
            Queries.isOn(greatest, 0, new int[] {3, 3, 3, 3, 3, 3});
        }
    }

    /** The place in FIVE of the target, or the length of FIVE if there is none. */
    private static int target(int from, int variable) {
        for (int later = from + 1; later < Queries.FIVE.length; later++) {
            for (int i = 0; i <= variable; i++) {
                if (Queries.FIVE[later][i] != Queries.FIVE[from][i]) {
                    return later;
                }
            }
        }
        return Queries.FIVE.length;
    }

    private static void fromAnAnswer() {
        Due.same("from the second answer, variable 0", target(1, 0), 3);
        Due.same("from the second answer, variable 1", target(1, 1), 2);
        for (int from = 0; from < 5; from++) {
            for (int variable = 0; variable < 4; variable++) {
                int target = target(from, variable);
                AcyclicJoin join = Queries.at(from + 1, from + 1);
                join.skip(0, variable);
                join.skip(1, variable);
                if (target < 5) {
                    Queries.isOn(join, 0, Queries.FIVE[target]);
                    Queries.isOn(join, 1, Queries.FIVE[target]);
                } else {
                    Queries.isAtEnd(join, 0);
                    Queries.isAtEnd(join, 1);
                }
            }
        }
        amongAllAssignments();
    }

    /** With every assignment an answer, the target counts the first variables on and sets the others to 0. */
    private static void amongAllAssignments() {
        AcyclicJoin join = Queries.of(1, 2, 4, 8, 16, 32);
        for (int atom = 0; atom < 6; atom++) {
            for (int value = 0; value < 4; value++) {
                join.addRow(atom, value, 0, 0);
            }
        }
        join.compile();
        for (int number = 0; number < 4096; number += 35) {
            for (int variable = 0; variable < 6; variable++) {
                join.rewind(1);
                stepTo(join, number);
                int shift = 2 * (5 - variable);
                int due = (number >> shift) + 1 << shift;
                join.skip(1, variable);
                Due.same("skip(1, " + variable + ") from " + number, numberAt(join, 1), Math.min(due, 4096));
            }
        }
    }

    private static void stepTo(AcyclicJoin join, int number) {
        for (int step = 0; step <= number; step++) {
            join.next(1);
        }
    }

    private static int numberAt(AcyclicJoin join, int cursor) {
        if (join.value(cursor, 0) == AcyclicJoin.AT_END) {
            return 4096;
        }
        int number = 0;
        for (int variable = 0; variable < 6; variable++) {
            number = number * 4 + join.value(cursor, variable);
        }
        return number;
    }

    private static void moved() {
        for (int from = -1; from < 5; from++) {
            for (int variable = 0; variable < 4; variable++) {
                int target = from < 0 ? 0 : target(from, variable);
                if (target < 5) {
                    AcyclicJoin join = Queries.at(0, from + 1);
                    Due.same("skip(1, " + variable + ") from " + from, join.skip(1, variable), AcyclicJoin.MOVED);
                    Queries.isOn(join, 1, Queries.FIVE[target]);
                }
            }
        }
    }

    private static void noTarget() {
        for (int from = 0; from < 5; from++) {
            for (int variable = 0; variable < 4; variable++) {
                if (target(from, variable) == 5) {
                    AcyclicJoin join = Queries.at(from + 1, 0);
                    Due.same("skip(0, " + variable + ") from " + from, join.skip(0, variable), AcyclicJoin.AT_END);
                    Queries.isAtEnd(join, 0);
                }
            }
        }
        for (int variable = 0; variable < 4; variable++) {
            AcyclicJoin none = Queries.afterCompile(Queries.none());
            Due.same("skip without answers", none.skip(1, variable), AcyclicJoin.AT_END);
            Queries.isAtEnd(none, 1);
        }
    }

    private static void lastVariable() {
        for (int v = 3; v <= 6; v++) {
            AcyclicJoin join = new AcyclicJoin(v, 3, 6, 8);
            join.addAtom(1 << (v - 1) | 1);
            join.addAtom(2);
            for (int value = 0; value < 3; value++) {
                join.addRow(0, 0, value, 0);
                join.addRow(0, 2, 2 - value, 0);
                join.addRow(1, value, 0, 0);
            }
            join.compile();
            for (int step = 0; step < 18; step++) {
                Due.same("V " + v + ": skip beside next", join.skip(0, v - 1), join.next(1));
                Due.yes("V " + v + ": the same place", Story.cursor(join, 0).equals(Story.cursor(join, 1)));
            }
        }
    }

    private static void noneCovered() {
        for (int covered = 1; covered < 6; covered++) {
            AcyclicJoin join = Queries.of(1 << covered);
            join.addRow(0, 1, 0, 0);
            join.addRow(0, 2, 0, 0);
            join.compile();
            for (int variable = 0; variable < 6; variable++) {
                int due = variable < covered ? AcyclicJoin.AT_END : AcyclicJoin.MOVED;
                join.rewind(0);
                Due.same("skip from the start", join.skip(0, variable), AcyclicJoin.MOVED);
                Due.same("first value", join.value(0, covered), 1);
                Due.same("covered is " + covered + ": skip(0, " + variable + ")", join.skip(0, variable), due);
                Due.same("second value", join.value(0, covered), due == AcyclicJoin.MOVED ? 2 : AcyclicJoin.AT_END);
            }
        }
    }

    private static void coveredOrNot() {
        AcyclicJoin join = Queries.at(1, 1);
        Due.same("skip of a variable that is not covered", join.skip(0, 2), AcyclicJoin.MOVED);
        Queries.isOn(join, 0, Queries.FIVE[2]);
        Due.same("skip of the covered one before it", join.skip(1, 1), AcyclicJoin.MOVED);
        Queries.isOn(join, 1, Queries.FIVE[2]);
    }

    private static void othersStay() {
        for (int variable = 0; variable < 4; variable++) {
            int last = variable;
            Moves.leaveOthers("skip to variable " + variable, (join, cursor) -> join.skip(cursor, last));
        }
    }
}
