import java.util.NoSuchElementException;

/** Promises 44 to 47: the input buffer and its commands. */
final class CommandTests {
    static void run(Check check) {
        check.test("promise 44: feed answers the length", CommandTests::feed);
        check.test("promise 45: each command does its work", CommandTests::eachCommand);
        check.test("promise 45: several commands, one after the other", CommandTests::severalCommands);
        check.test("promise 45: a failed command leaves the state", CommandTests::failedLeavesState);
        check.test("promise 45: every reason to fail", CommandTests::everyFailure);
        check.test("promise 45: the buffer is empty afterwards", CommandTests::bufferIsEmptied);
        check.test("promise 45: a malformed text carries out nothing", CommandTests::malformedDoesNothing);
        check.test("promise 45: a full buffer of commands", CommandTests::fullBuffer);
        check.test("promise 46: errorPosition", CommandTests::errorPosition);
        check.test("promise 46: errorPosition is kept", CommandTests::errorPositionIsKept);
        check.test("promise 47: failedCommand", CommandTests::failedCommand);
    }

    static void feedAll(MapHall hall, String text) {
        for (char sign : text.toCharArray()) {
            hall.feed(sign);
        }
    }

    static int runText(MapHall hall, String text) {
        feedAll(hall, text);
        return hall.runCommands();
    }

    static void fails(MapHall hall, int due, String text) {
        Check.refuses(UnsupportedOperationException.class, () -> runText(hall, text));
        Check.same(due, hall.failedCommand());
    }

    static void isMalformed(MapHall hall, int due, String text) {
        Check.refuses(IllegalArgumentException.class, () -> runText(hall, text));
        Check.same(due, hall.errorPosition());
    }

    private static void feed() {
        MapHall hall = new MapHall();
        for (int length = 1; length <= 60; length++) {
            Check.same(length, hall.feed((char) (length * 1000)));
        }
        Check.refuses(IllegalStateException.class, () -> hall.feed('a'));
        Check.refuses(IllegalStateException.class, () -> hall.feed('b'));
        Check.refuses(IllegalArgumentException.class, hall::runCommands);
        Check.same(1, hall.feed('a'));
    }

    private static void eachCommand() {
        MapHall hall = new MapHall();
        Check.same(1, runText(hall, "sheet 1203 c"));
        Check.same("c1203", OutputTests.sheetText(hall, 0));
        runText(hall, "crease 0 v");
        runText(hall, "crease 0 m");
        Check.same("c1203|vm", OutputTests.sheetText(hall, 0));
        runText(hall, "fold 0");
        Check.same("c1203|vm**#", OutputTests.sheetText(hall, 0));
        runText(hall, "open 0");
        Check.same("c1203|vm**", OutputTests.sheetText(hall, 0));
        runText(hall, "paste 3");
        Check.same(3, hall.paste());
        runText(hall, "paste 20");
        Check.same(23, hall.paste());
        runText(hall, "paste 07");
        Check.same(30, hall.paste());
        runText(hall, "mend 0");
        Check.same("c1203|vm", OutputTests.sheetText(hall, 0));
        Check.same(28, hall.paste());
        runText(hall, "put 0 5 3");
        Check.same(5, hall.cellOf(0));
        Check.same(3, hall.turnsIn(5));
        runText(hall, "take 5");
        Check.same(9, hall.emptyCells());
        runText(hall, "sheet 9999 s");
        runText(hall, "sheet 0000 l");
        Check.same('l', hall.kind(2));
        Check.same('s', hall.kind(1));
    }

    private static void severalCommands() {
        MapHall hall = new MapHall();
        Check.same(5, runText(hall, "sheet 0000 s;sheet 0000 c;put 0 4 0;put 1 5 3;paste 09"));
        Check.same(1, hall.undoCount());
        Check.same(2, hall.sheetCount());
        Check.same(9, hall.paste());
        Check.same(1, hall.sheetIn(5));
        Check.same(7, runText(hall, "take 4;take 5;paste 1;paste 1;paste 1;paste 1;paste 1"));
        Check.same(14, hall.paste());
        Check.same(2, hall.undoCount());
    }

    private static void failedLeavesState() {
        MapHall hall = new MapHall();
        hall.addPaste(1);
        fails(hall, 3, "sheet 0000 s;put 0 0 0;crease 0 m;fold 0");
        Check.same(0, hall.sheetCount());
        Check.same(9, hall.emptyCells());
        Check.same(1, hall.undoCount());
        Check.same(1, hall.paste());
        Check.same(0, hall.undo());
        Check.same(0, hall.paste());
        for (int times = 1; times <= 8; times++) {
            hall.addPaste(times);
        }
        fails(hall, 1, "paste 1;paste 50");
        Check.same(8, hall.undoCount());
        for (int times = 8; times >= 1; times--) {
            hall.undo();
            Check.same(times * (times - 1) / 2, hall.paste());
        }
    }

    private static void everyFailure() {
        MapHall hall = new MapHall();
        runText(hall, "sheet 0000 s;sheet 1111 l;put 0 4 0;crease 1 v");
        String[] texts = {
            "crease 9 v", "crease 2 m", "fold 2", "fold 0", "open 1", "open 5", "mend 1", "mend 7",
            "put 9 0 0", "put 1 9 0", "put 1 0 4", "put 1 0 9", "put 0 0 0", "put 1 4 0", "put 1 5 0",
            "take 9", "take 0", "paste 0", "paste 00", "paste 21", "paste 99",
            "paste 20;paste 20;paste 11"};
        for (String text : texts) {
            fails(hall, text.contains(";") ? 2 : 0, text);
            Check.same(0, hall.paste());
        }
        Check.same(1, hall.undoCount());
        for (int sheet = 2; sheet < 9; sheet++) {
            hall.addSheet(0, 0, 0, 0, 's');
        }
        fails(hall, 0, "sheet 0000 s");
    }

    private static void bufferIsEmptied() {
        MapHall hall = new MapHall();
        runText(hall, "paste 1");
        Check.same(1, hall.feed('x'));
        Check.refuses(IllegalArgumentException.class, hall::runCommands);
        Check.same(1, hall.feed('f'));
        Check.refuses(UnsupportedOperationException.class, () -> runText(hall, "old 0"));
        Check.same(1, hall.feed('x'));
    }

    private static void malformedDoesNothing() {
        MapHall hall = new MapHall();
        isMalformed(hall, 8, "paste 1;x");
        isMalformed(hall, 16, "fold 0;paste 99;");
        Check.same(0, hall.paste());
        Check.same(0, hall.undoCount());
        Check.refuses(NoSuchElementException.class, hall::failedCommand);
    }

    private static void fullBuffer() {
        MapHall hall = new MapHall();
        String text = "paste 1;paste 1;paste 1;paste 1;paste 01;paste 1;paste 01;";
        isMalformed(hall, 58, text);
        isMalformed(hall, 60, text + "pa");
        hall.addSheet(0, 0, 0, 0, 's');
        hall.addCrease(0, 'v');
        String folds = "fold 0;open 0;fold 0;open 0;fold 0;open 0;fold 0;open 0";
        Check.same(8, runText(hall, folds));
        Check.same(4, hall.wear(0));
        isMalformed(hall, 60, folds + ";mend");
    }

    private static void errorPosition() {
        MapHall hall = new MapHall();
        Check.refuses(NoSuchElementException.class, hall::errorPosition);
        isMalformed(hall, 0, "");
        isMalformed(hall, 0, ";");
        isMalformed(hall, 0, " fold 0");
        isMalformed(hall, 0, "Fold 0");
        isMalformed(hall, 0, "\u0100");
        isMalformed(hall, 2, "foLd 0");
        isMalformed(hall, 3, "fol");
        isMalformed(hall, 4, "fold");
        isMalformed(hall, 4, "fold0");
        isMalformed(hall, 5, "fold ");
        isMalformed(hall, 5, "fold  0");
        isMalformed(hall, 6, "fold 0 ");
        isMalformed(hall, 6, "fold 00");
        isMalformed(hall, 7, "fold 0;");
        isMalformed(hall, 7, "fold 0;;fold 0");
        isMalformed(hall, 7, "fold 0; fold 0");
        isMalformed(hall, 4, "fold;0");
        isMalformed(hall, 2, "shift");
        isMalformed(hall, 1, "p");
        isMalformed(hall, 1, "pold 0");
        isMalformed(hall, 2, "pat 0 0 0");
        isMalformed(hall, 2, "puste 1");
        isMalformed(hall, 2, "tale 0");
        isMalformed(hall, 8, "sheet 00");
        isMalformed(hall, 8, "sheet 00a0 s");
        isMalformed(hall, 10, "sheet 00000 s");
        isMalformed(hall, 11, "sheet 0000 x");
        isMalformed(hall, 11, "sheet 0000 v");
        isMalformed(hall, 11, "sheet 0000 ");
        isMalformed(hall, 12, "sheet 0000 ss");
        isMalformed(hall, 9, "crease 0 s");
        isMalformed(hall, 7, "crease -1 m");
        isMalformed(hall, 10, "crease 0 mm");
        isMalformed(hall, 7, "put 0 4");
        isMalformed(hall, 9, "put 0 4 00");
        isMalformed(hall, 6, "paste ");
        isMalformed(hall, 6, "paste ;");
        isMalformed(hall, 7, "paste 1x");
        isMalformed(hall, 7, "paste 1 ");
        isMalformed(hall, 8, "paste 100");
        isMalformed(hall, 9, "paste 10;");
        isMalformed(hall, 6, "take 0,");
    }

    private static void errorPositionIsKept() {
        MapHall hall = new MapHall();
        hall.addPaste(1);
        hall.save();
        isMalformed(hall, 2, "pax");
        runText(hall, "paste 1");
        Check.same(2, hall.errorPosition());
        fails(hall, 0, "take 0");
        Check.same(2, hall.errorPosition());
        hall.undo();
        hall.restore();
        Check.same(2, hall.errorPosition());
        isMalformed(hall, 1, "ff");
    }

    private static void failedCommand() {
        MapHall hall = new MapHall();
        Check.refuses(NoSuchElementException.class, hall::failedCommand);
        runText(hall, "paste 1");
        Check.refuses(NoSuchElementException.class, hall::failedCommand);
        fails(hall, 2, "paste 1;paste 1;take 0;paste 0");
        runText(hall, "paste 1");
        Check.same(2, hall.failedCommand());
        isMalformed(hall, 0, "x");
        Check.same(2, hall.failedCommand());
        hall.undo();
        Check.same(2, hall.failedCommand());
        fails(hall, 0, "take 0");
    }
}
