/** The terms for phases, cursors, bad arguments and the order of conditions. */
public final class TermsCallsTest {
    private static final int WRONG_PHASE = AcyclicJoin.WRONG_PHASE;
    private static final int BAD = AcyclicJoin.BAD;

    public static void main(String[] args) {
        Sentences.of("Phases")
                .holds("The object is always in exactly one of the phases LOADING, READY, CYCLIC.",
                        TermsCallsTest::onePhase)
                .end();
        Sentences.of("Cursors")
                .holds("There are two cursors, numbered 0 and 1, independent of each other.",
                        TermsCallsTest::twoCursors)
                .holds("Each is at the start (before the first answer), on an answer, or at the end (after the last"
                        + " answer).", TermsCallsTest::placesOfACursor)
                .end();
        Sentences.of("Bad arguments")
                .holds("These hold for every int, however small or large:", TermsCallsTest::everyInt)
                .holds("An atom index is bad iff it is below 0 or not below the number of atoms added so far.",
                        TermsCallsTest::badAtoms)
                .holds("A cursor is bad iff it is neither 0 nor 1.", TermsCallsTest::badCursors)
                .holds("A variable is bad iff it is below 0 or not below V.", TermsCallsTest::badVariables)
                .holds("A value is bad iff it is below 0 or not below D.", TermsCallsTest::badValues)
                .end();
        Sentences.of("Order of conditions")
                .holds("In every call the conditions are looked at in the order in which they are listed in the"
                        + " promise.", TermsCallsTest::order)
                .holds("The first that holds gives the answer of the call, and then nothing changes at all.",
                        TermsCallsTest::refusedCallsChangeNothing)
                .holds("A call for which no change is named changes nothing.", TermsCallsTest::questionsChangeNothing)
                .holds("If none of the numbered conditions holds, what stands after \"Otherwise\" takes place, with the"
                        + " changes named there (also where the answer is then AT_END).", TermsCallsTest::otherwise)
                .end();
        Due.end();
    }

    /** In each phase the calls that want another one are refused, and those that want this one are not. */
    private static void onePhase() {
        for (Queries.State state : Queries.ALL) {
            int phase = state.make().phase();
            Due.yes(state.name() + " is a phase", phase == 0 || phase == 1 || phase == 2);
            boolean loading = phase == AcyclicJoin.LOADING;
            boolean ready = phase == AcyclicJoin.READY;
            String name = state.name() + ": WRONG_PHASE from ";
            Due.yes(name + "addAtom", (state.make().addAtom(1) == WRONG_PHASE) == !loading);
            Due.yes(name + "addRow", (state.make().addRow(0, 0, 0, 0) == WRONG_PHASE) == !loading);
            Due.yes(name + "dropRow", (state.make().dropRow(0, 0, 0, 0) == WRONG_PHASE) == !loading);
            Due.yes(name + "compile", (state.make().compile() == WRONG_PHASE) == !loading);
            Due.yes(name + "reopen", (state.make().reopen() == WRONG_PHASE) == loading);
            Due.yes(name + "residue", (state.make().residue() == WRONG_PHASE) == loading);
            Due.yes(name + "residueOf", (state.make().residueOf(0) == WRONG_PHASE) == loading);
            Due.yes(name + "live", (state.make().live(0) == WRONG_PHASE) == !ready);
            Due.yes(name + "count", (state.make().count() == WRONG_PHASE) == !ready);
            Due.yes(name + "next", (state.make().next(0) == WRONG_PHASE) == !ready);
            Due.yes(name + "skip", (state.make().skip(0, 0) == WRONG_PHASE) == !ready);
            Due.yes(name + "rewind", (state.make().rewind(0) == WRONG_PHASE) == !ready);
            Due.yes(name + "value", (state.make().value(0, 0) == WRONG_PHASE) == !ready);
        }
    }

    private static void twoCursors() {
        for (int first = 0; first <= 6; first++) {
            for (int second = 0; second <= 6; second++) {
                AcyclicJoin join = Queries.at(first, second);
                isAfter(join, 0, first);
                isAfter(join, 1, second);
            }
        }
        // The same steps, taken in turn.
        AcyclicJoin join = Queries.at(0, 0);
        for (int step = 1; step <= 6; step++) {
            join.next(1);
            isAfter(join, 0, step - 1);
            isAfter(join, 1, step);
            join.next(0);
            isAfter(join, 0, step);
            isAfter(join, 1, step);
        }
        join.rewind(0);
        isAfter(join, 0, 0);
        isAfter(join, 1, 6);
        Due.same("no cursor -1", join.next(-1), BAD);
        Due.same("no cursor 2", join.next(2), BAD);
    }

    private static void isAfter(AcyclicJoin join, int cursor, int steps) {
        if (steps == 0) {
            Queries.isAtStart(join, cursor);
        } else if (steps <= Queries.FIVE.length) {
            Queries.isOn(join, cursor, Queries.FIVE[steps - 1]);
        } else {
            Queries.isAtEnd(join, cursor);
        }
    }

    private static void placesOfACursor() {
        for (int cursor = 0; cursor < 2; cursor++) {
            AcyclicJoin join = Queries.at(0, 0);
            isAfter(join, cursor, 0);
            for (int step = 1; step <= 5; step++) {
                Due.same("next", join.next(cursor), AcyclicJoin.MOVED);
                isAfter(join, cursor, step);
            }
            Due.same("next from the last answer", join.next(cursor), AcyclicJoin.AT_END);
            isAfter(join, cursor, 6);
            AcyclicJoin none = Queries.afterCompile(Queries.none());
            Queries.isAtStart(none, cursor);
            none.next(cursor);
            Queries.isAtEnd(none, cursor);
        }
    }

    /** Any int at any place of any call ends with an answer of the document. */
    private static void everyInt() {
        for (int wild : Queries.WILD) {
            AcyclicJoin[] joins = {Queries.five(), Queries.at(1, 2), Queries.afterCompile(Queries.ring())};
            for (int phase = 0; phase < 3; phase++) {
                for (int other : Queries.WILD) {
                    anyInts(joins[phase], wild, other);
                    Due.same("phase", joins[phase].phase(), phase);
                }
            }
        }
    }

    private static void anyInts(AcyclicJoin join, int wild, int other) {
        isAnAnswer("addRow", join.addRow(wild, other, other, other));
        isAnAnswer("addRow", join.addRow(0, wild, other, wild));
        isAnAnswer("dropRow", join.dropRow(wild, other, other, other));
        isAnAnswer("dropRow", join.dropRow(0, wild, other, wild));
        isAnAnswer("rowState", join.rowState(wild, other, other, other));
        isAnAnswer("rowState", join.rowState(1, wild, other, wild));
        isAnAnswer("value", join.value(wild, other));
        isAnAnswer("skip", join.skip(wild, other));
        isAnAnswer("next", join.next(wild));
        isAnAnswer("rewind", join.rewind(wild));
        isAnAnswer("live", join.live(wild));
        isAnAnswer("residueOf", join.residueOf(wild));
        isAnAnswer("scope", join.scope(wild));
        isAnAnswer("addAtom", join.addAtom(wild));
    }

    private static void isAnAnswer(String call, int answer) {
        Due.yes(call + " answers from -8 to 15: " + answer, answer >= -8 && answer <= 15);
    }

    private static void badAtoms() {
        Refused.badAtoms("addRow", false, (join, atom) -> join.addRow(atom, 2, 2, 2));
        Refused.badAtoms("dropRow", false, (join, atom) -> join.dropRow(atom, 1, 1, 1));
        for (boolean compiled : new boolean[] {false, true}) {
            Refused.badAtoms("scope", compiled, AcyclicJoin::scope);
            Refused.badAtoms("rowState", compiled, (join, atom) -> join.rowState(atom, 1, 1, 1));
        }
        Refused.badAtoms("residueOf", true, AcyclicJoin::residueOf);
        Refused.badAtoms("live", true, AcyclicJoin::live);
        // The number added so far, not the number that may be added.
        AcyclicJoin join = Queries.of();
        for (int atom = 0; atom < 6; atom++) {
            Due.same("scope before addAtom", join.scope(atom), BAD);
            join.addAtom(1 << atom);
            Due.same("scope after addAtom", join.scope(atom), 1 << atom);
        }
    }

    private static void badCursors() {
        Refused.badCursors("next", AcyclicJoin::next);
        Refused.badCursors("skip", (join, cursor) -> join.skip(cursor, 1));
        Refused.badCursors("rewind", AcyclicJoin::rewind);
        Refused.badCursors("value", (join, cursor) -> join.value(cursor, 1));
    }

    private static void badVariables() {
        Refused.badVariables("skip", AcyclicJoin::skip);
        Refused.badVariables("value", AcyclicJoin::value);
    }

    private static void badValues() {
        Refused.badValues("addRow", false, AcyclicJoin::addRow);
        Refused.badValues("dropRow", false, AcyclicJoin::dropRow);
        Refused.badValues("rowState", false, AcyclicJoin::rowState);
        Refused.badValues("rowState", true, AcyclicJoin::rowState);
    }

    /** Each call with as many of its conditions as can hold together: the first one listed gives the answer. */
    private static void order() {
        AcyclicJoin ready = Queries.at(6, 6);
        AcyclicJoin cyclic = Queries.afterCompile(Queries.ring());
        AcyclicJoin loading = Queries.five();
        for (AcyclicJoin join : new AcyclicJoin[] {ready, cyclic}) {
            Due.same("addAtom", join.addAtom(-1), WRONG_PHASE);
            Due.same("addRow", join.addRow(-1, 9, 9, 9), WRONG_PHASE);
            Due.same("dropRow", join.dropRow(-1, 9, 9, 9), WRONG_PHASE);
        }
        for (AcyclicJoin join : new AcyclicJoin[] {loading, cyclic}) {
            Due.same("live", join.live(-1), WRONG_PHASE);
            Due.same("next", join.next(9), WRONG_PHASE);
            Due.same("skip", join.skip(9, 9), WRONG_PHASE);
            Due.same("rewind", join.rewind(9), WRONG_PHASE);
            Due.same("value", join.value(9, 9), WRONG_PHASE);
        }
        Due.same("residueOf", loading.residueOf(9), WRONG_PHASE);
        Due.same("addRow of a stored row to a full atom", loading.addRow(0, 3, 1, 0), AcyclicJoin.DUPLICATE);
        Due.same("addRow of a bad row to a full atom", loading.addRow(0, 3, 4, 0), BAD);
        Due.same("dropRow of a bad row", loading.dropRow(0, 3, 4, 0), BAD);
        Due.same("rowState of a bad row", loading.rowState(0, 3, 4, 0), BAD);
        Due.same("rowState of an absent row", loading.rowState(0, 3, 3, 0), AcyclicJoin.ABSENT);
        Due.same("skip of a bad variable at the end", ready.skip(0, 4), BAD);
        Due.same("value of a bad variable at the end", ready.value(1, 4), BAD);
        ready.rewind(1);
        Due.same("value of a bad variable at the start", ready.value(1, 4), BAD);
        loading.addAtom(1);
        loading.addAtom(1);
        Due.same("addAtom of a bad scope to a full query", loading.addAtom(15), BAD);
    }

    private static void refusedCallsChangeNothing() {
        for (Queries.State state : Queries.ALL) {
            unchangedIfRefused(state, "addAtom(0)", join -> join.addAtom(0));
            unchangedIfRefused(state, "addAtom(2)", join -> join.addAtom(2));
            unchangedIfRefused(state, "addRow(0, 3, 1, 0)", join -> join.addRow(0, 3, 1, 0));
            unchangedIfRefused(state, "addRow(0, 1, 1, 1)", join -> join.addRow(0, 1, 1, 1));
            unchangedIfRefused(state, "addRow(1, 4, 1, 1)", join -> join.addRow(1, 4, 1, 1));
            unchangedIfRefused(state, "addRow(1, 3, 3, 3)", join -> join.addRow(1, 3, 3, 3));
            unchangedIfRefused(state, "dropRow(0, 3, 1, 0)", join -> join.dropRow(0, 3, 1, 0));
            unchangedIfRefused(state, "dropRow(0, 1, 0, 0)", join -> join.dropRow(0, 1, 0, 0));
            unchangedIfRefused(state, "dropRow(5, 0, 0, 0)", join -> join.dropRow(5, 0, 0, 0));
            unchangedIfRefused(state, "compile()", AcyclicJoin::compile);
            unchangedIfRefused(state, "reopen()", AcyclicJoin::reopen);
            for (int cursor = -1; cursor <= 2; cursor++) {
                int moved = cursor;
                unchangedIfRefused(state, "rewind(" + cursor + ")", join -> join.rewind(moved));
                unchangedIfAtEnd(state, cursor, "next(" + cursor + ")", join -> join.next(moved));
                for (int variable = -1; variable <= 4; variable++) {
                    int last = variable;
                    unchangedIfAtEnd(state, cursor, "skip(" + cursor + ", " + variable + ")",
                            join -> join.skip(moved, last));
                }
            }
        }
    }

    private static void unchangedIfRefused(Queries.State state, String name, Refused.Call call) {
        if (call.on(state.make()) < 0) {
            Story.unchanged(state.name() + ": " + name, state.maker(), call::on);
        }
    }

    /** AT_END is a refusal only where the cursor was at the end before. */
    private static void unchangedIfAtEnd(Queries.State state, int cursor, String name, Refused.Call call) {
        int answer = call.on(state.make());
        boolean wasAtEnd = state.make().value(cursor, 0) == AcyclicJoin.AT_END;
        if (answer == WRONG_PHASE || answer == BAD || wasAtEnd) {
            Story.unchanged(state.name() + ": " + name, state.maker(), call::on);
        }
    }

    private static void questionsChangeNothing() {
        for (Queries.State state : Queries.ALL) {
            Story.unchanged(state.name() + ": all questions, twice", state.maker(), join -> {
                for (int time = 0; time < 2; time++) {
                    Story.query(join);
                    Story.cursor(join, 0);
                    Story.cursor(join, 1);
                }
            });
        }
    }

    private static void otherwise() {
        AcyclicJoin join = Queries.fresh();
        Due.same("addAtom", join.addAtom(6), 0);
        Due.same("the atom is there", join.scope(0), 6);
        Due.same("addRow", join.addRow(0, 1, 2, 0), AcyclicJoin.OK);
        Due.same("the row is there", join.rowState(0, 1, 2, 0), AcyclicJoin.STORED);
        Due.same("compile", join.compile(), AcyclicJoin.READY);
        Due.same("the phase is there", join.phase(), AcyclicJoin.READY);
        Due.same("next", join.next(0), AcyclicJoin.MOVED);
        Queries.isOn(join, 0, new int[] {0, 1, 2, 0});
        Due.same("skip", join.skip(1, 0), AcyclicJoin.MOVED);
        Queries.isOn(join, 1, new int[] {0, 1, 2, 0});
        Due.same("next without a target", join.next(0), AcyclicJoin.AT_END);
        Queries.isAtEnd(join, 0);
        Due.same("skip without a target", join.skip(1, 3), AcyclicJoin.AT_END);
        Queries.isAtEnd(join, 1);
        Due.same("rewind", join.rewind(1), AcyclicJoin.OK);
        Queries.isAtStart(join, 1);
        Due.same("reopen", join.reopen(), AcyclicJoin.OK);
        Due.same("the phase is there", join.phase(), AcyclicJoin.LOADING);
        Due.same("dropRow", join.dropRow(0, 1, 2, 0), AcyclicJoin.OK);
        Due.same("the row is gone", join.rowState(0, 1, 2, 0), AcyclicJoin.ABSENT);
    }
}
