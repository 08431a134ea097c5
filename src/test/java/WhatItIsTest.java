import java.nio.file.Files;
import java.nio.file.Path;
import java.util.List;
import java.util.regex.Matcher;
import java.util.regex.Pattern;
import java.util.stream.Collectors;
import java.util.stream.Stream;

/** The section "What it is", and that no section of the document is without a test. */
public final class WhatItIsTest {
    public static void main(String[] args) throws Exception {
        Sentences.of("What it is")
                .holds("AcyclicJoin is a small evaluator for conjunctive queries over small relations. Atoms, each over"
                        + " one, two or three variables, are loaded together with rows of small values.",
                        WhatItIsTest::loads)
                .holds("compile decides whether the query is cyclic.", WhatItIsTest::decides)
                .holds("For a cyclic query the residue can be read.", WhatItIsTest::readsTheResidue)
                .holds("For a query that is not cyclic one can ask which stored rows take part in some answer, how many"
                        + " answers there are, and for the answers themselves, which two independent cursors walk"
                        + " through in lexicographic order.", WhatItIsTest::answers)
                .holds("The query can be reopened, changed and compiled again.", WhatItIsTest::reopens)
                .holds("Public constants, all of type int:", WhatItIsTest::constantsAreInts)
                .holds("General answers: OK = 0, MOVED = 1.", WhatItIsTest::generalAnswers)
                .holds("Negative answers: WRONG_PHASE = -1, BAD = -2, FULL = -3, DUPLICATE = -4, ABSENT = -5, EMPTY ="
                        + " -6, AT_START = -7, AT_END = -8 (AT_END is also answered by a next or skip that has just put"
                        + " the cursor at the end).", WhatItIsTest::negativeAnswers)
                .holds("Phases: LOADING = 0, READY = 1, CYCLIC = 2.", WhatItIsTest::phases)
                .holds("Row states: STORED = 1, LIVE = 2, DANGLING = 3.", WhatItIsTest::rowStates)
                .end();
        everySectionHasATest();
        Due.end();
    }

    private static AcyclicJoin loaded() {
        AcyclicJoin join = Queries.of(1, 3, 14);
        join.addRow(0, 1, 0, 0);
        join.addRow(0, 2, 0, 0);
        join.addRow(1, 2, 3, 0);
        join.addRow(1, 1, 0, 0);
        join.addRow(2, 0, 1, 2);
        join.addRow(2, 3, 0, 0);
        join.addRow(2, 2, 2, 2);
        return join;
    }

    private static void loads() {
        AcyclicJoin join = loaded();
        Due.same("one variable", join.rowState(0, 2, 0, 0), AcyclicJoin.STORED);
        Due.same("two variables", join.rowState(1, 2, 3, 0), AcyclicJoin.STORED);
        Due.same("three variables", join.rowState(2, 0, 1, 2), AcyclicJoin.STORED);
    }

    private static void decides() {
        Due.same("compile", loaded().compile(), AcyclicJoin.READY);
        Due.same("compile of a ring", Queries.of(3, 6, 5).compile(), AcyclicJoin.CYCLIC);
    }

    private static void readsTheResidue() {
        AcyclicJoin ring = Queries.compiled(3, 6, 5, 24);
        Due.same("residue", ring.residue(), 7);
        Due.same("residueOf(1)", ring.residueOf(1), 6);
    }

    private static void answers() {
        AcyclicJoin join = loaded();
        join.compile();
        Due.same("a row in an answer", join.rowState(2, 3, 0, 0), AcyclicJoin.LIVE);
        Due.same("a row in none", join.rowState(2, 2, 2, 2), AcyclicJoin.DANGLING);
        Due.same("live(2)", join.live(2), 2);
        Due.same("count", join.count(), 2);
        join.next(0);
        join.next(0);
        join.next(1);
        Queries.isOn(join, 0, new int[] {2, 3, 0, 0, 0, 0});
        Queries.isOn(join, 1, new int[] {1, 0, 1, 2, 0, 0});
    }

    private static void reopens() {
        AcyclicJoin join = loaded();
        join.compile();
        Due.same("reopen", join.reopen(), AcyclicJoin.OK);
        Due.same("dropRow", join.dropRow(0, 1, 0, 0), AcyclicJoin.OK);
        Due.same("compile", join.compile(), AcyclicJoin.READY);
        Due.same("count", join.count(), 1);
    }

    private static void constantsAreInts() {
        for (var field : AcyclicJoin.class.getFields()) {
            Due.yes(field.getName() + " is an int", field.getType() == int.class);
        }
        Due.same("constants", AcyclicJoin.class.getFields().length, 16);
    }

    private static void generalAnswers() {
        Due.same("OK", AcyclicJoin.OK, 0);
        Due.same("MOVED", AcyclicJoin.MOVED, 1);
        Due.same("rewind", Queries.at(0, 0).rewind(0), 0);
        Due.same("next", Queries.at(0, 0).next(0), 1);
    }

    private static void negativeAnswers() {
        Due.same("WRONG_PHASE", AcyclicJoin.WRONG_PHASE, -1);
        Due.same("BAD", AcyclicJoin.BAD, -2);
        Due.same("FULL", AcyclicJoin.FULL, -3);
        Due.same("DUPLICATE", AcyclicJoin.DUPLICATE, -4);
        Due.same("ABSENT", AcyclicJoin.ABSENT, -5);
        Due.same("EMPTY", AcyclicJoin.EMPTY, -6);
        Due.same("AT_START", AcyclicJoin.AT_START, -7);
        Due.same("AT_END", AcyclicJoin.AT_END, -8);
        Due.same("reopen in LOADING", Queries.five().reopen(), -1);
        Due.same("a bad atom", Queries.five().scope(2), -2);
        Due.same("a full atom", Queries.five().addRow(0, 1, 1, 0), -3);
        Due.same("a row again", Queries.five().addRow(0, 3, 1, 0), -4);
        Due.same("no such row", Queries.five().dropRow(0, 1, 1, 0), -5);
        Due.same("no atoms", Queries.fresh().compile(), -6);
        Due.same("value at the start", Queries.at(0, 0).value(0, 0), -7);
        Due.same("value at the end", Queries.at(6, 0).value(0, 0), -8);
        Due.same("next that puts the cursor at the end", Queries.at(5, 0).next(0), -8);
        Due.same("skip that puts the cursor at the end", Queries.at(4, 0).skip(0, 0), -8);
        Due.same("next at the end", Queries.at(6, 0).next(0), -8);
    }

    private static void phases() {
        Due.same("LOADING", AcyclicJoin.LOADING, 0);
        Due.same("READY", AcyclicJoin.READY, 1);
        Due.same("CYCLIC", AcyclicJoin.CYCLIC, 2);
        Due.same("phase in LOADING", Queries.five().phase(), 0);
        Due.same("compile to READY", Queries.five().compile(), 1);
        Due.same("compile to CYCLIC", Queries.ring().compile(), 2);
    }

    private static void rowStates() {
        Due.same("STORED", AcyclicJoin.STORED, 1);
        Due.same("LIVE", AcyclicJoin.LIVE, 2);
        Due.same("DANGLING", AcyclicJoin.DANGLING, 3);
        Due.same("a row in LOADING", Queries.five().rowState(0, 3, 1, 0), 1);
        Due.same("a row in an answer", Queries.at(0, 0).rowState(0, 3, 1, 0), 2);
        Due.same("a row in none", Queries.at(0, 0).rowState(0, 2, 3, 0), 3);
    }

    private static void everySectionHasATest() throws Exception {
        Due.about("every section has a test");
        List<Path> files;
        try (Stream<Path> all = Files.list(Path.of("src/test/java"))) {
            files = all.collect(Collectors.toList());
        }
        StringBuilder tests = new StringBuilder();
        for (Path file : files) {
            tests.append(Files.readString(file));
        }
        Matcher heading = Pattern.compile("(?m)^## (.*)$|^\\*\\*(.*)\\.\\*\\*").matcher(Sentences.document());
        // FaceTest reads the face; "Terms" stands for its parts; the last section promises nothing.
        List<String> others = List.of("The public face", "Terms", "Not promised");
        while (heading.find()) {
            String section = heading.group(1) != null ? heading.group(1) : heading.group(2);
            Due.yes(section, others.contains(section) || tests.indexOf("Sentences.of(\"" + section + "\")") >= 0);
        }
    }
}
