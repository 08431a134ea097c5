import java.util.ArrayList;
import java.util.IdentityHashMap;
import java.util.List;
import java.util.Map;
import java.util.function.Consumer;
import java.util.function.Supplier;

/** What an object shows: at once, and in its answers to a long fixed row of calls that uses all of it. */
final class Story {
    private static final Map<Supplier<AcyclicJoin>, List<List<Integer>>> UNTOUCHED = new IdentityHashMap<>();

    // A question that wrongly changes something would hide this when the story asks it too early, so the stories
    // begin in several ways.
    private static final List<Consumer<Story>> BEGINNINGS =
            List.of(Story::beginWithCursors, Story::beginWithMoves, Story::beginWithReopen);

    private final AcyclicJoin join;
    private final List<Integer> answers = new ArrayList<>();

    private Story(AcyclicJoin join) {
        this.join = join;
    }

    /** A call that changes nothing leaves an object that can't be told from one without the call. */
    static void unchanged(String what, Supplier<AcyclicJoin> maker, Consumer<AcyclicJoin> call) {
        List<List<Integer>> called = stories(() -> {
            AcyclicJoin join = maker.get();
            call.accept(join);
            return join;
        });
        Due.yes(what + " changes nothing", called.equals(UNTOUCHED.computeIfAbsent(maker, Story::stories)));
    }

    static void same(String what, Supplier<AcyclicJoin> one, Supplier<AcyclicJoin> other) {
        Due.yes(what, stories(one).equals(stories(other)));
    }

    /** All that can be seen without a change, but for the cursors. */
    static List<Integer> query(AcyclicJoin join) {
        Story story = new Story(join);
        story.lookAtQuery();
        return story.answers;
    }

    static List<Integer> cursor(AcyclicJoin join, int cursor) {
        Story story = new Story(join);
        story.lookAtCursor(cursor);
        return story.answers;
    }

    /** The scope and the rows of one atom, whether live or not. */
    static List<Integer> atom(AcyclicJoin join, int atom) {
        Story story = new Story(join);
        story.add(join.scope(atom));
        for (int row = 0; row < 64; row++) {
            int state = join.rowState(atom, row & 3, row >> 2 & 3, row >> 4);
            story.add(state > 0 ? AcyclicJoin.STORED : state);
        }
        return story.answers;
    }

    private static List<List<Integer>> stories(Supplier<AcyclicJoin> maker) {
        List<List<Integer>> all = new ArrayList<>();
        for (Consumer<Story> beginning : BEGINNINGS) {
            Story story = new Story(maker.get());
            beginning.accept(story);
            story.goOn();
            all.add(story.answers);
        }
        return all;
    }

    private void beginWithCursors() {
        lookAtCursors();
        lookAtQuery();
    }

    private void beginWithMoves() {
        add(join.next(0));
        add(join.next(1));
        lookAtCursors();
        lookAtQueryBackwards();
    }

    private void beginWithReopen() {
        add(join.reopen());
        fill();
    }

    private void goOn() {
        add(join.compile());
        lookAtCursors();
        lookAtQuery();
        walk();
        add(join.reopen());
        lookAtQuery();
        fill();
        add(join.compile());
        lookAtCursors();
        lookAtQuery();
        walk();
        add(join.reopen());
        dropAll();
        lookAtQuery();
    }

    private void add(int answer) {
        answers.add(answer);
    }

    private void lookAtQuery() {
        add(join.phase());
        add(join.residue());
        add(join.count());
        for (int atom = 0; atom <= 6; atom++) {
            add(join.scope(atom));
            add(join.live(atom));
            add(join.residueOf(atom));
            for (int row = 0; row < 64; row++) {
                add(join.rowState(atom, row & 3, row >> 2 & 3, row >> 4));
            }
        }
    }

    private void lookAtQueryBackwards() {
        for (int atom = 6; atom >= 0; atom--) {
            for (int row = 63; row >= 0; row--) {
                add(join.rowState(atom, row & 3, row >> 2 & 3, row >> 4));
            }
            add(join.residueOf(atom));
            add(join.live(atom));
            add(join.scope(atom));
        }
        add(join.count());
        add(join.residue());
        add(join.phase());
    }

    private void lookAtCursors() {
        lookAtCursor(0);
        lookAtCursor(1);
    }

    private void lookAtCursor(int cursor) {
        for (int variable = -1; variable <= 6; variable++) {
            add(join.value(cursor, variable));
        }
    }

    private void walk() {
        for (int step = 0; step < 8; step++) {
            add(join.next(0));
            add(join.skip(1, step % 4));
            lookAtCursors();
        }
        add(join.rewind(0));
        add(join.rewind(1));
        lookAtCursors();
        for (int step = 0; step < 20; step++) {
            add(join.next(1));
            add(join.skip(0, 1));
            lookAtCursors();
        }
    }

    private void fill() {
        for (int atom = 0; atom < 7; atom++) {
            add(join.addAtom(1));
        }
        for (int atom = 0; atom < 6; atom++) {
            for (int row = 0; row < 64; row++) {
                add(join.addRow(atom, row & 3, row >> 2 & 3, row >> 4));
            }
        }
    }

    private void dropAll() {
        for (int atom = 0; atom < 6; atom++) {
            for (int row = 0; row < 64; row++) {
                add(join.dropRow(atom, row & 3, row >> 2 & 3, row >> 4));
            }
        }
    }
}
