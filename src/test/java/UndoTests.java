/** Promises 51 to 54: undo, save and restore. */
final class UndoTests {
    static void run(Check check) {
        check.test("promise 51: undoCount counts recorded calls, up to 8", UndoTests::undoCount);
        check.test("promise 51: refused and asking calls are not recorded", UndoTests::notRecorded);
        check.test("promise 52: undo of each kind of call", UndoTests::undoEach);
        check.test("promise 52: undo of eight calls, one by one", UndoTests::undoOneByOne);
        check.test("promise 52: an undone sheet leaves nothing", UndoTests::undoneSheetLeavesNothing);
        check.test("promise 52: undo refuses", UndoTests::undoRefusals);
        check.test("promise 52: only the 8 latest calls", UndoTests::undoLatest);
        check.test("promise 52: a refused call costs no step", UndoTests::refusedCostsNothing);
        check.test("promise 52: input and output are not undone", UndoTests::undoKeepsBuffers);
        check.test("promises 53 and 54: save and restore", UndoTests::saveAndRestore);
        check.test("promise 54: restore brings back replaced sheets", UndoTests::restoreReplaced);
        check.test("promise 53: an earlier saved state is replaced", UndoTests::saveReplaces);
        check.test("promise 53: save is not recorded and not undone", UndoTests::saveAndUndo);
        check.test("promise 54: restore refuses", UndoTests::restoreRefusals);
        check.test("promise 54: restore keeps buffers, errors and the saved state", UndoTests::restoreKeeps);
    }

    private static void undoCount() {
        MapHall hall = new MapHall();
        Check.same(0, hall.undoCount());
        hall.addSheet(0, 0, 0, 0, 's');
        Check.same(1, hall.undoCount());
        hall.addCrease(0, 'v');
        Check.same(2, hall.undoCount());
        hall.fold(0);
        Check.same(3, hall.undoCount());
        hall.unfold(0);
        Check.same(4, hall.undoCount());
        hall.addPaste(1);
        Check.same(5, hall.undoCount());
        hall.mend(0);
        Check.same(6, hall.undoCount());
        hall.put(0, 0, 0);
        Check.same(7, hall.undoCount());
        hall.take(0);
        Check.same(8, hall.undoCount());
        // Nothing changes by this text, and yet it is recorded, in place of the oldest call.
        CommandTests.runText(hall, "put 0 0 0;take 0");
        Check.same(8, hall.undoCount());
        for (int left = 7; left >= 0; left--) {
            Check.same(left, hall.undo());
            Check.same(left, hall.undoCount());
        }
        Check.same(1, hall.sheetCount());
        Check.same(0, hall.creaseCount(0));
        CommandTests.runText(hall, "put 0 0 0;take 0");
        Check.same(1, hall.undoCount());
    }

    private static void notRecorded() {
        MapHall hall = SheetTests.withSheet("v");
        hall.save();
        hall.writeTable();
        hall.writeSheet(0);
        hall.feed('x');
        hall.isConsistent();
        hall.matches(0, 0, 0);
        Check.refuses(IllegalArgumentException.class, hall::runCommands);
        Check.refuses(UnsupportedOperationException.class, () -> CommandTests.runText(hall, "take 0"));
        Check.refuses(IllegalArgumentException.class, () -> hall.addSheet(0, 0, 0, 0, 'x'));
        Check.refuses(IllegalStateException.class, () -> hall.unfold(0));
        Check.refuses(IllegalArgumentException.class, () -> hall.addPaste(0));
        Check.same(2, hall.undoCount());
    }

    /** The call is recorded, and undone to the very state from before. */
    private static void isUndone(MapHall hall, Check.Body call) throws Exception {
        int recorded = Math.min(8, hall.undoCount() + 1);
        String before = Digest.of(hall);
        call.run();
        Check.same(recorded, hall.undoCount());
        Check.holds(!before.equals(Digest.of(hall)));
        Check.same(recorded - 1, hall.undo());
        Check.same(before, Digest.of(hall));
    }

    private static void undoEach() throws Exception {
        MapHall hall = SheetTests.withSheet("vm");
        isUndone(hall, () -> hall.addSheet(1, 2, 3, 4, 'c'));
        isUndone(hall, () -> hall.addCrease(0, 'v'));
        isUndone(hall, () -> hall.addPaste(4));
        isUndone(hall, () -> hall.fold(0));
        hall.addPaste(1);
        isUndone(hall, () -> hall.put(0, 4, 1));
        isUndone(hall, () -> CommandTests.runText(hall, "paste 7;fold 0;open 0;mend 0;put 0 8 3"));
        hall.fold(0);
        isUndone(hall, () -> hall.unfold(0));
        hall.unfold(0);
        hall.addPaste(4);
        isUndone(hall, () -> hall.mend(0));
        hall.put(0, 4, 3);
        isUndone(hall, () -> hall.take(4));
    }

    private static void undoOneByOne() {
        MapHall hall = SheetTests.withSheet("");
        String[] texts = {"crease 0 v", "put 0 0 1", "take 0", "put 0 0 2", "take 0", "fold 0",
            "open 0", "paste 9"};
        String[] before = new String[texts.length];
        for (int index = 0; index < texts.length; index++) {
            before[index] = Digest.of(hall);
            CommandTests.runText(hall, texts[index]);
        }
        for (int index = texts.length - 1; index >= 0; index--) {
            Check.same(index, hall.undo());
            Check.same(before[index], Digest.of(hall));
        }
    }

    private static void undoneSheetLeavesNothing() {
        MapHall hall = SheetTests.withSheet("vm");
        hall.fold(0);
        hall.unfold(0);
        hall.put(0, 4, 1);
        for (int left = 5; left >= 0; left--) {
            Check.same(left, hall.undo());
        }
        hall.addSheet(1, 2, 3, 4, 's');
        Check.same("s1234", OutputTests.sheetText(hall, 0));
        Check.same(36, hall.waysToPut(0));
        Check.same("....../....../......", OutputTests.tableText(hall));
    }

    private static void undoRefusals() {
        MapHall hall = new MapHall();
        Check.refuses(IllegalStateException.class, hall::undo);
        hall.addPaste(1);
        hall.undo();
        Check.refuses(IllegalStateException.class, hall::undo);
        Check.same(0, hall.paste());
    }

    private static void undoLatest() {
        MapHall hall = new MapHall();
        for (int times = 1; times <= 30; times++) {
            hall.addPaste(1);
        }
        for (int left = 7; left >= 0; left--) {
            Check.same(left, hall.undo());
        }
        Check.same(22, hall.paste());
        Check.refuses(IllegalStateException.class, hall::undo);
        hall.addPaste(2);
        hall.addPaste(3);
        Check.same(1, hall.undo());
        Check.same(24, hall.paste());
    }

    private static void refusedCostsNothing() {
        MapHall hall = new MapHall();
        for (int times = 1; times <= 8; times++) {
            hall.addPaste(1);
        }
        for (int times = 1; times <= 20; times++) {
            Check.refuses(IndexOutOfBoundsException.class, () -> hall.fold(0));
        }
        for (int left = 7; left >= 0; left--) {
            Check.same(left, hall.undo());
            Check.same(left, hall.paste());
        }
    }

    private static void undoKeepsBuffers() {
        MapHall hall = SheetTests.withSheet("v");
        hall.writeSheet(0);
        CommandTests.feedAll(hall, "fold");
        hall.undo();
        hall.undo();
        Check.same("l0000|v", OutputTests.outputText(hall, 7));
        Check.same(5, hall.feed(' '));
    }

    private static void saveAndRestore() {
        MapHall hall = SheetTests.withSheet("vm");
        hall.addPaste(7);
        hall.addSheet(1, 2, 3, 4, 'c');
        hall.put(1, 3, 2);
        hall.fold(0);
        hall.unfold(0);
        hall.mend(0);
        String saved = Digest.of(hall);
        Check.same(2, hall.save());
        hall.addSheet(5, 5, 5, 5, 's');
        hall.take(3);
        hall.fold(0);
        hall.addCrease(1, 'v');
        hall.addPaste(1);
        Check.same(2, hall.restore());
        Check.same(saved, Digest.of(hall));
        Check.same(0, hall.undoCount());
        Check.refuses(IllegalStateException.class, hall::undo);
        hall.addPaste(2);
        Check.same(0, hall.undo());
        Check.same(saved, Digest.of(hall));
    }

    private static void restoreReplaced() {
        MapHall hall = new MapHall();
        hall.addSheet(1, 2, 3, 4, 'c');
        SheetTests.addCreases(hall, 0, "vvvvvv");
        hall.put(0, 4, 1);
        String saved = Digest.of(hall);
        hall.save();
        for (int left = 7; left >= 0; left--) {
            Check.same(left, hall.undo());
        }
        hall.addSheet(5, 6, 7, 8, 's');
        SheetTests.addCreases(hall, 0, "mmmmmm");
        hall.put(0, 4, 2);
        hall.restore();
        Check.same(saved, Digest.of(hall));
    }

    private static void saveReplaces() {
        MapHall hall = new MapHall();
        Check.same(0, hall.save());
        hall.addSheet(0, 0, 0, 0, 's');
        hall.addPaste(3);
        Check.same(1, hall.save());
        hall.addSheet(0, 0, 0, 0, 's');
        hall.addPaste(3);
        Check.same(1, hall.restore());
        Check.same(3, hall.paste());
    }

    private static void saveAndUndo() {
        MapHall hall = new MapHall();
        hall.addPaste(1);
        hall.addPaste(2);
        hall.save();
        Check.same(2, hall.undoCount());
        hall.undo();
        Check.same(1, hall.paste());
        hall.undo();
        hall.restore();
        Check.same(3, hall.paste());
    }

    private static void restoreRefusals() {
        MapHall hall = new MapHall();
        hall.addPaste(1);
        Check.refuses(IllegalStateException.class, hall::restore);
        Check.same(1, hall.paste());
        Check.same(1, hall.undoCount());
    }

    private static void restoreKeeps() {
        MapHall hall = new MapHall();
        hall.save();
        CommandTests.fails(hall, 0, "take 0");
        CommandTests.isMalformed(hall, 1, "tt");
        hall.addSheet(1, 1, 1, 1, 's');
        hall.writeSheet(0);
        hall.feed('p');
        for (int times = 0; times < 3; times++) {
            Check.same(0, hall.restore());
            hall.addPaste(1);
        }
        Check.same(1, hall.paste());
        Check.same(0, hall.failedCommand());
        Check.same(1, hall.errorPosition());
        Check.same("s1111", OutputTests.outputText(hall, 5));
        Check.same(2, hall.feed('u'));
    }
}
