import java.util.ArrayList;
import java.util.List;

/** The sections "Undo" and "Errors" and promises 51 to 54: each bound, on both sides. */
final class UndoEdges {
    static void run(Check check) {
        check.test("undo: each of the nine methods is recorded", UndoEdges::recorded);
        check.test("undo: recorded even if nothing changes", UndoEdges::nothingChanges);
        check.test("undo: no other method is recorded", UndoEdges::notRecorded);
        check.test("undo: a call that throws is not recorded", UndoEdges::refusedNotRecorded);
        check.test("undo: 8 calls can be undone, a ninth replaces the oldest", UndoEdges::eightLatest);
        check.test("undo: the 8 latest after any number of calls", UndoEdges::anyNumberOfCalls);
        check.test("undo: back and forth", UndoEdges::backAndForth);
        check.test("undo: the input buffer is not undone, nor saved", UndoEdges::inputIsKept);
        check.test("undo: the output is not undone, nor saved", UndoEdges::outputIsKept);
        check.test("undo: the error position is not undone, nor saved", UndoEdges::errorIsKept);
        check.test("undo: the failed command is not undone, nor saved", UndoEdges::failedIsKept);
        check.test("errors: a call that throws leaves the state", UndoEdges::refusedKeepsState);
        check.test("errors: a call that throws leaves what can be undone", UndoEdges::refusedKeepsHistory);
        check.test("errors: a call that throws leaves the input buffer", UndoEdges::refusedKeepsInput);
        check.test("errors: a call that throws leaves the saved state", UndoEdges::refusedKeepsSaved);
        check.test("promise 51: from 0 to 8", UndoEdges::undoCounts);
        check.test("promise 52: answers 7 to 0", UndoEdges::undoAnswers);
        check.test("promise 52: refuses if no call can be undone", UndoEdges::undoNone);
        check.test("promise 52: a text is one call", UndoEdges::undoText);
        check.test("promise 52: the paste and the sums are undone", UndoEdges::undoSums);
        check.test("promise 53: answers 0 to 9", UndoEdges::saveAnswers);
        check.test("promise 53: replaces an earlier saved state", UndoEdges::saveReplaces);
        check.test("promise 53: the table, the paste and the sums are saved", UndoEdges::saveAll);
        check.test("promise 53: later calls don't change the saved state", UndoEdges::savedApart);
        check.test("promise 54: answers 0 to 9", UndoEdges::restoreAnswers);
        check.test("promise 54: refuses until a state was saved", UndoEdges::restoreNone);
        check.test("promise 54: the saved state is kept", UndoEdges::restoreTwice);
        check.test("promise 54: no call can be undone afterwards", UndoEdges::restoreForgets);
        check.test("promise 54: 8 later calls can be undone again", UndoEdges::restoreThenEight);
    }

    private static void counted(MapHall hall, int due, Check.Body call) throws Exception {
        call.run();
        Check.same(due, hall.undoCount());
        Check.same(due - 1, hall.undo());
        call.run();
        Check.same(due, hall.undoCount());
    }

    private static void recorded() throws Exception {
        MapHall hall = new MapHall();
        counted(hall, 1, () -> hall.addSheet(0, 0, 0, 0, 's'));
        counted(hall, 2, () -> hall.addCrease(0, 'v'));
        counted(hall, 3, () -> hall.fold(0));
        counted(hall, 4, () -> hall.unfold(0));
        counted(hall, 5, () -> hall.addPaste(1));
        counted(hall, 6, () -> hall.mend(0));
        counted(hall, 7, () -> hall.put(0, 0, 0));
        counted(hall, 8, () -> hall.take(0));
        MapHall text = new MapHall();
        counted(text, 1, () -> CommandTests.runText(text, "paste 1"));
    }

    private static void nothingChanges() {
        MapHall hall = TableTests.laid("s........");
        String before = Digest.of(hall);
        Check.same(2, CommandTests.runText(hall, "take 0;put 0 0 0"));
        Check.same(before, Digest.of(hall));
        Check.same(3, hall.undoCount());
        Check.same(2, hall.undo());
        Check.same(before, Digest.of(hall));
        Check.same(1, hall.undo());
        Check.same(9, hall.emptyCells());
    }

    /** A hall with a laid sheet 0, a folded sheet 1 and a flat sheet 2, and 3 paste. */
    private static MapHall mixed() {
        MapHall hall = TableTests.withKinds("slc");
        hall.put(0, 0, 0);
        hall.addCrease(1, 'v');
        hall.fold(1);
        hall.addPaste(3);
        return hall;
    }

    private static void notRecorded() {
        MapHall hall = mixed();
        Check.same(7, hall.undoCount());
        String before = Digest.of(hall);
        askAll(hall);
        hall.save();
        hall.feed('x');
        hall.writeTable();
        hall.writeSheet(0);
        Check.same(7, hall.undoCount());
        Check.same(before, Digest.of(hall));
    }

    private static void askAll(MapHall hall) {
        hall.waysToPut(2);
        hall.matches(2, 1, 0);
        hall.foldings(1);
        hall.foldingsByPermutations(1);
        hall.canBeOnTop(1, 0);
        hall.pointsOf(0);
        hall.points();
        hall.pointsByPairs();
        hall.groupSize(0);
        hall.groups();
        hall.groupsByJoining();
        hall.matchedBorders();
        hall.sheetByWear(0);
        hall.meanWear();
        hall.coveredShare();
        hall.isConsistent();
        hall.undoCount();
    }

    private static void refusedNotRecorded() {
        MapHall hall = mixed();
        for (Check.Body call : refusedCalls(hall)) {
            Check.holds(throwsSomething(call));
            Check.same(7, hall.undoCount());
        }
        Check.refuses(IllegalArgumentException.class, hall::runCommands);
        CommandTests.fails(hall, 1, "paste 1;take 8");
        Check.same(7, hall.undoCount());
    }

    /** Calls of each method that throws, with each of its reasons, on a hall as mixed() makes it. */
    private static List<Check.Body> refusedCalls(MapHall hall) {
        List<Check.Body> calls = new ArrayList<>();
        calls.add(() -> hall.addSheet(10, 0, 0, 0, 's'));
        calls.add(() -> hall.addSheet(0, 0, 0, 0, 'x'));
        calls.add(() -> hall.addCrease(3, 'v'));
        calls.add(() -> hall.addCrease(2, 'x'));
        calls.add(() -> hall.addCrease(1, 'v'));
        calls.add(() -> hall.fold(3));
        calls.add(() -> hall.fold(0));
        calls.add(() -> hall.fold(1));
        calls.add(() -> hall.fold(2));
        calls.add(() -> hall.unfold(3));
        calls.add(() -> hall.unfold(0));
        calls.add(() -> hall.mend(3));
        calls.add(() -> hall.mend(0));
        calls.add(() -> hall.mend(1));
        calls.add(() -> hall.put(3, 1, 0));
        calls.add(() -> hall.put(2, 9, 0));
        calls.add(() -> hall.put(2, 1, 4));
        calls.add(() -> hall.put(0, 1, 0));
        calls.add(() -> hall.put(1, 1, 0));
        calls.add(() -> hall.put(2, 0, 0));
        calls.add(() -> hall.take(9));
        calls.add(() -> hall.take(1));
        calls.add(() -> hall.addPaste(0));
        calls.add(() -> hall.addPaste(21));
        calls.addAll(refusedQuestions(hall));
        return calls;
    }

    private static List<Check.Body> refusedQuestions(MapHall hall) {
        List<Check.Body> calls = new ArrayList<>();
        calls.add(() -> hall.kind(3));
        calls.add(() -> hall.border(3, 0));
        calls.add(() -> hall.border(0, 4));
        calls.add(() -> hall.wear(3));
        calls.add(() -> hall.isTorn(3));
        calls.add(() -> hall.isFolded(3));
        calls.add(() -> hall.creaseCount(3));
        calls.add(() -> hall.crease(3, 0));
        calls.add(() -> hall.crease(1, 1));
        calls.add(() -> hall.cellOf(3));
        calls.add(() -> hall.cellOf(1));
        calls.add(() -> hall.sheetIn(9));
        calls.add(() -> hall.sheetIn(1));
        calls.add(() -> hall.turnsIn(1));
        calls.add(() -> hall.borderIn(0, 4));
        calls.add(() -> hall.matches(2, 0, 0));
        calls.add(() -> hall.matches(0, 1, 0));
        calls.add(() -> hall.waysToPut(3));
        calls.add(hall::completions);
        calls.add(hall::completionsBackwards);
        calls.add(() -> hall.foldings(3));
        calls.add(() -> hall.foldingsByPermutations(3));
        calls.add(() -> hall.canBeOnTop(1, 2));
        calls.add(() -> hall.pointsOf(1));
        calls.add(() -> hall.groupSize(1));
        calls.add(() -> hall.sheetByWear(3));
        calls.add(() -> hall.writeSheet(3));
        calls.add(() -> hall.outputChar(20));
        return calls;
    }

    private static boolean throwsSomething(Check.Body call) {
        try {
            call.run();
            return false;
        } catch (Exception refused) {
            return true;
        }
    }

    private static void eightLatest() {
        MapHall hall = new MapHall();
        for (int calls = 1; calls <= 8; calls++) {
            hall.addPaste(1);
            Check.same(calls, hall.undoCount());
        }
        hall.addPaste(1);
        Check.same(8, hall.undoCount());
        for (int left = 7; left >= 0; left--) {
            Check.same(left, hall.undo());
            Check.same(left + 1, hall.paste());
        }
        Refusals.wrongState(hall, hall::undo);
        Check.same(1, hall.paste());
    }

    private static void anyNumberOfCalls() {
        for (int calls = 0; calls <= 50; calls++) {
            MapHall hall = new MapHall();
            for (int call = 0; call < calls; call++) {
                hall.addPaste(1);
            }
            int undone = Math.min(8, calls);
            Check.same(undone, hall.undoCount());
            for (int left = undone - 1; left >= 0; left--) {
                Check.same(left, hall.undo());
                Check.same(calls - undone + left, hall.paste());
            }
            Refusals.wrongState(hall, hall::undo);
        }
    }

    private static void backAndForth() {
        for (int undone = 1; undone <= 8; undone++) {
            MapHall hall = new MapHall();
            CommandTests.runText(hall, "paste 10");
            for (int calls = 1; calls <= 8; calls++) {
                hall.addPaste(1);
            }
            for (int round = 0; round < 20; round++) {
                for (int times = 1; times <= undone; times++) {
                    Check.same(8 - times, hall.undo());
                    Check.same(18 - times, hall.paste());
                }
                for (int times = undone - 1; times >= 0; times--) {
                    Check.same(18 - times, hall.addPaste(1));
                    Check.same(8 - times, hall.undoCount());
                }
            }
        }
    }

    private static void inputIsKept() {
        MapHall hall = new MapHall();
        CommandTests.feedAll(hall, "pas");
        hall.save();
        hall.addPaste(1);
        CommandTests.feedAll(hall, "te ");
        hall.undo();
        Check.same(7, hall.feed('2'));
        hall.addPaste(1);
        hall.restore();
        Check.same(8, hall.feed('0'));
        Check.same(1, hall.runCommands());
        Check.same(20, hall.paste());
        hall.undo();
        // The text is not put back by undoing it.
        Check.same(1, hall.feed('p'));
    }

    private static void outputIsKept() {
        MapHall hall = TableTests.withKinds("s");
        hall.writeTable();
        hall.save();
        hall.addPaste(1);
        hall.writeSheet(0);
        hall.undo();
        Check.same("s0000", OutputTests.outputText(hall, 5));
        hall.restore();
        Check.same("s0000", OutputTests.outputText(hall, 5));
    }

    private static void errorIsKept() {
        MapHall hall = new MapHall();
        hall.save();
        hall.addPaste(1);
        CommandTests.isMalformed(hall, 3, "fol");
        hall.undo();
        Check.same(3, hall.errorPosition());
        CommandTests.isMalformed(hall, 4, "fold");
        hall.restore();
        Check.same(4, hall.errorPosition());
    }

    private static void failedIsKept() {
        MapHall hall = new MapHall();
        hall.save();
        hall.addPaste(1);
        CommandTests.fails(hall, 1, "paste 1;take 0");
        hall.undo();
        Check.same(1, hall.failedCommand());
        CommandTests.fails(hall, 0, "take 0");
        hall.restore();
        Check.same(0, hall.failedCommand());
    }

    private static void refusedKeepsState() {
        MapHall hall = mixed();
        hall.writeTable();
        String before = Digest.whole(hall);
        for (Check.Body call : refusedCalls(hall)) {
            Check.holds(throwsSomething(call));
            Check.same(before, Digest.whole(hall));
        }
        Refusals.wrongState(hall, hall::restore);
    }

    private static void refusedKeepsHistory() {
        MapHall hall = new MapHall();
        List<String> before = new ArrayList<>();
        String[] texts = {"sheet 0000 s", "sheet 0000 l", "sheet 0000 c", "put 0 0 0", "crease 1 v", "fold 1",
            "paste 2", "paste 1"};
        for (String text : texts) {
            before.add(Digest.of(hall));
            CommandTests.runText(hall, text);
        }
        for (Check.Body call : refusedCalls(hall)) {
            Check.holds(throwsSomething(call));
        }
        CommandTests.fails(hall, 1, "paste 1;take 8");
        CommandTests.isMalformed(hall, 8, "paste 1;");
        for (int left = 7; left >= 0; left--) {
            Check.same(left, hall.undo());
            Check.same(before.get(left), Digest.of(hall));
        }
        Refusals.wrongState(hall, hall::undo);
    }

    private static void refusedKeepsInput() {
        MapHall hall = mixed();
        CommandTests.feedAll(hall, "open");
        int length = 4;
        for (Check.Body call : refusedCalls(hall)) {
            Check.holds(throwsSomething(call));
            length++;
            if (length <= 60) {
                Check.same(length, hall.feed('n'));
            } else {
                Refusals.wrongState(hall, () -> hall.feed('n'));
            }
        }
        Check.refuses(IllegalArgumentException.class, hall::runCommands);
        Check.same(4, hall.errorPosition());
    }

    private static void refusedKeepsSaved() {
        MapHall hall = mixed();
        String saved = Digest.of(hall);
        hall.save();
        for (Check.Body call : refusedCalls(hall)) {
            Check.holds(throwsSomething(call));
        }
        hall.take(0);
        CommandTests.fails(hall, 1, "paste 1;take 8");
        hall.restore();
        Check.same(saved, Digest.of(hall));
    }

    private static void undoCounts() {
        MapHall hall = new MapHall();
        Check.same(0, hall.undoCount());
        for (int calls = 1; calls <= 20; calls++) {
            hall.addPaste(1);
            Check.same(Math.min(8, calls), hall.undoCount());
        }
        hall.undo();
        Check.same(7, hall.undoCount());
        hall.addPaste(1);
        Check.same(8, hall.undoCount());
    }

    private static void undoAnswers() {
        MapHall hall = TableTests.withKinds("sssssssss");
        for (int left = 7; left >= 0; left--) {
            Check.same(left, hall.undo());
            Check.same(left + 1, hall.sheetCount());
        }
    }

    private static void undoNone() {
        MapHall hall = new MapHall();
        Refusals.wrongState(hall, hall::undo);
        hall.addPaste(1);
        Check.same(0, hall.undo());
        Refusals.wrongState(hall, hall::undo);
        hall.addPaste(2);
        hall.save();
        hall.restore();
        Refusals.wrongState(hall, hall::undo);
    }

    private static void undoText() {
        MapHall hall = new MapHall();
        String before = Digest.of(hall);
        CommandTests.runText(hall, "sheet 0000 s;crease 0 v;fold 0;paste 1;open 0;mend 0");
        Check.same(1, hall.undoCount());
        Check.same(0, hall.undo());
        Check.same(before, Digest.of(hall));
    }

    private static void undoSums() {
        MapHall hall = SheetTests.withSheet("v");
        hall.addPaste(1);
        hall.fold(0);
        hall.unfold(0);
        hall.mend(0);
        hall.undo();
        Check.same(0, hall.usedPaste());
        Check.same(1, hall.paste());
        Check.same(1, hall.wear(0));
        hall.undo();
        Check.same(1, hall.foldCount());
        hall.undo();
        Check.same(0, hall.foldCount());
        Check.same(0, hall.wear(0));
    }

    private static void saveAnswers() {
        MapHall hall = new MapHall();
        for (int sheets = 0; sheets <= 9; sheets++) {
            Check.same(sheets, hall.save());
            if (sheets < 9) {
                hall.addSheet(0, 0, 0, 0, 's');
            }
        }
    }

    private static void saveReplaces() {
        MapHall hall = new MapHall();
        hall.addPaste(1);
        hall.save();
        hall.addPaste(1);
        hall.save();
        hall.addPaste(1);
        hall.restore();
        Check.same(2, hall.paste());
    }

    private static void saveAll() {
        MapHall hall = mixed();
        hall.unfold(1);
        hall.mend(1);
        String saved = Digest.of(hall);
        hall.save();
        hall.take(0);
        hall.put(0, 8, 3);
        hall.fold(1);
        hall.unfold(1);
        hall.mend(1);
        hall.addCrease(2, 'm');
        hall.addSheet(1, 2, 3, 4, 'c');
        hall.restore();
        Check.same(saved, Digest.of(hall));
        Check.same(1, hall.foldCount());
        Check.same(1, hall.usedPaste());
        Check.same(2, hall.paste());
    }

    private static void savedApart() {
        MapHall hall = mixed();
        hall.save();
        String saved = Digest.of(hall);
        for (int times = 0; times < 7; times++) {
            hall.undo();
        }
        Check.same(0, hall.sheetCount());
        Check.same(3, hall.restore());
        Check.same(saved, Digest.of(hall));
    }

    private static void restoreAnswers() {
        for (int sheets = 0; sheets <= 9; sheets++) {
            MapHall hall = TableTests.withKinds("sssssssss".substring(9 - sheets));
            hall.save();
            if (sheets > 0) {
                hall.undo();
            }
            Check.same(sheets, hall.restore());
            Check.same(sheets, hall.sheetCount());
        }
    }

    private static void restoreNone() {
        MapHall hall = mixed();
        Refusals.wrongState(hall, hall::restore);
        hall.undo();
        Refusals.wrongState(hall, hall::restore);
        hall.save();
        Check.same(3, hall.restore());
    }

    private static void restoreTwice() {
        MapHall hall = mixed();
        String saved = Digest.of(hall);
        hall.save();
        for (int times = 0; times < 3; times++) {
            hall.addPaste(1);
            hall.take(0);
            hall.addCrease(2, 'v');
            Check.same(3, hall.restore());
            Check.same(saved, Digest.of(hall));
        }
    }

    private static void restoreForgets() {
        MapHall hall = new MapHall();
        hall.save();
        for (int calls = 0; calls <= 9; calls++) {
            for (int call = 0; call < calls; call++) {
                hall.addPaste(1);
            }
            hall.restore();
            Check.same(0, hall.undoCount());
            Refusals.wrongState(hall, hall::undo);
        }
    }

    private static void restoreThenEight() {
        MapHall hall = new MapHall();
        hall.addPaste(20);
        hall.save();
        for (int rounds = 0; rounds < 5; rounds++) {
            for (int call = 0; call < rounds; call++) {
                hall.addPaste(2);
            }
            hall.restore();
            for (int calls = 1; calls <= 9; calls++) {
                hall.addPaste(1);
                Check.same(Math.min(8, calls), hall.undoCount());
            }
            for (int left = 7; left >= 0; left--) {
                Check.same(left, hall.undo());
                Check.same(21 + left, hall.paste());
            }
            Refusals.wrongState(hall, hall::undo);
        }
    }
}
