import java.util.function.IntConsumer;

/** Promises 10 to 25: the bounds of each answer and of each reason to refuse, on both sides. */
final class QuestionEdges {
    static void run(Check check) {
        check.test("promise 10: from 0 to 9 sheets", QuestionEdges::sheetCount);
        check.test("promise 11: the kinds of the first and the last sheet", QuestionEdges::kind);
        check.test("promise 11: no such sheet", () -> noSuchSheet(MapHall::kind));
        check.test("promise 12: codes from 0 to 9, as not turned", QuestionEdges::border);
        check.test("promise 12: no such sheet", () -> noSuchSheet((hall, sheet) -> hall.border(sheet, 0)));
        check.test("promise 12: sides from 0 to 3", QuestionEdges::borderSides);
        check.test("promise 12: no such sheet before no such side", QuestionEdges::borderFirst);
        check.test("promise 13: a wear from 0 to 9", QuestionEdges::wear);
        check.test("promise 13: no such sheet", () -> noSuchSheet(MapHall::wear));
        check.test("promise 14: torn by a wear of 5, not of 4", QuestionEdges::isTorn);
        check.test("promise 14: no such sheet", () -> noSuchSheet(MapHall::isTorn));
        check.test("promise 15: folded only from fold to unfold", QuestionEdges::isFolded);
        check.test("promise 15: no such sheet", () -> noSuchSheet(MapHall::isFolded));
        check.test("promise 16: from 0 to 6 creases", QuestionEdges::creaseCount);
        check.test("promise 16: no such sheet", () -> noSuchSheet(MapHall::creaseCount));
        check.test("promise 17: the first and the last crease", QuestionEdges::crease);
        check.test("promise 17: no such sheet", () -> noSuchSheet((hall, sheet) -> hall.crease(sheet, 0)));
        check.test("promise 17: no such crease", QuestionEdges::creaseIndex);
        check.test("promise 18: cells from 0 to 8", QuestionEdges::cellOf);
        check.test("promise 18: no such sheet", () -> noSuchSheet(MapHall::cellOf));
        check.test("promise 18: a sheet off the table refuses", QuestionEdges::cellOfNone);
        check.test("promise 19: sheets from 0 to 8", QuestionEdges::sheetIn);
        check.test("promise 19: no such cell", () -> noSuchCell(MapHall::sheetIn));
        check.test("promise 19: an empty cell refuses", () -> emptyCell(MapHall::sheetIn));
        check.test("promise 20: quarters from 0 to 3", QuestionEdges::turnsIn);
        check.test("promise 20: no such cell", () -> noSuchCell(MapHall::turnsIn));
        check.test("promise 20: an empty cell refuses", () -> emptyCell(MapHall::turnsIn));
        check.test("promise 21: codes from 0 to 9, as turned", QuestionEdges::borderIn);
        check.test("promise 21: no such cell", () -> noSuchCell((hall, cell) -> hall.borderIn(cell, 0)));
        check.test("promise 21: sides from 0 to 3", QuestionEdges::borderInSides);
        check.test("promise 21: an empty cell refuses", QuestionEdges::borderInEmpty);
        check.test("promise 21: the reason listed first", QuestionEdges::borderInFirst);
        check.test("promise 22: from 0 to 9 empty cells", QuestionEdges::emptyCells);
        check.test("promise 23: from 0 to 50 paste", QuestionEdges::paste);
        check.test("promise 24: whether a sheet could be laid there or not", QuestionEdges::matchesAnyState);
        check.test("promise 24: the same as put for each cell and quarters", QuestionEdges::matchesAsPut);
        check.test("promise 24: no such sheet", QuestionEdges::matchesSheet);
        check.test("promise 24: no such cell", QuestionEdges::matchesCell);
        check.test("promise 24: quarters from 0 to 3", QuestionEdges::matchesTurns);
        check.test("promise 24: a cell that is not empty refuses", QuestionEdges::matchesFullCell);
        check.test("promise 24: a sheet on the table refuses", QuestionEdges::matchesOnTable);
        check.test("promise 24: the reason listed first", QuestionEdges::matchesFirst);
        check.test("promise 25: from 0 to 36 ways", QuestionEdges::waysToPut);
        check.test("promise 25: no way on the table", QuestionEdges::waysOnTable);
        check.test("promise 25: no way if folded", QuestionEdges::waysFolded);
        check.test("promise 25: no way if torn", QuestionEdges::waysTorn);
        check.test("promise 25: no such sheet", () -> noSuchSheet(MapHall::waysToPut));
    }

    /** A question about one sheet or one cell. */
    interface Question {
        Object ask(MapHall hall, int number);
    }

    /** The question is refused just outside the sheets that exist: none, two, nine, and one undone. */
    static void noSuchSheet(Question question) {
        MapHall hall = new MapHall();
        IntConsumer refused = sheet -> Refusals.noIndex(hall, () -> question.ask(hall, sheet));
        refused.accept(0);
        refused.accept(-1);
        for (int sheet = 0; sheet < 9; sheet++) {
            hall.addSheet(0, 0, 0, 0, 's');
            hall.addCrease(sheet, 'v');
            for (int bad : Refusals.outside(0, sheet)) {
                refused.accept(bad);
            }
        }
        hall.undo();
        hall.undo();
        refused.accept(8);
    }

    /** The question is refused just outside the cells, on an empty table as on a full one. */
    static void noSuchCell(Question question) {
        for (String table : new String[] {".........", "sssssssss"}) {
            MapHall hall = TableTests.laid(table);
            for (int bad : Refusals.outside(0, 8)) {
                Refusals.noIndex(hall, () -> question.ask(hall, bad));
            }
        }
    }

    /** The question is refused for each empty cell, and answered for each other one. */
    static void emptyCell(Question question) {
        MapHall hall = TableTests.laid("sssssssss");
        for (int cell = 0; cell < 9; cell++) {
            int asked = cell;
            question.ask(hall, cell);
            hall.take(cell);
            Refusals.nothingThere(hall, () -> question.ask(hall, asked));
            hall.put(cell, cell, 0);
        }
    }

    private static void sheetCount() {
        MapHall hall = new MapHall();
        Check.same(0, hall.sheetCount());
        for (int sheet = 0; sheet < 9; sheet++) {
            hall.addSheet(0, 0, 0, 0, 's');
            Check.same(sheet + 1, hall.sheetCount());
        }
        Refusals.wrongState(hall, () -> hall.addSheet(0, 0, 0, 0, 's'));
        Check.same(9, hall.sheetCount());
    }

    private static void kind() {
        MapHall hall = TableTests.withKinds("slclslslc");
        Check.same('s', hall.kind(0));
        Check.same('l', hall.kind(1));
        Check.same('c', hall.kind(8));
    }

    private static void border() {
        MapHall hall = new MapHall();
        hall.addSheet(0, 9, 1, 8, 's');
        hall.put(0, 0, 3);
        Check.same(0, hall.border(0, 0));
        Check.same(9, hall.border(0, 1));
        Check.same(1, hall.border(0, 2));
        Check.same(8, hall.border(0, 3));
    }

    private static void borderSides() {
        MapHall hall = TableTests.withKinds("s");
        for (int bad : Refusals.outside(0, 3)) {
            Refusals.badArgument(hall, () -> hall.border(0, bad));
        }
        Check.same(0, hall.border(0, 0));
        Check.same(0, hall.border(0, 3));
    }

    private static void borderFirst() {
        MapHall hall = TableTests.withKinds("s");
        Refusals.noIndex(hall, () -> hall.border(1, 4));
        Refusals.noIndex(hall, () -> hall.border(-1, -1));
    }

    private static void wear() {
        for (int wear = 0; wear <= 9; wear++) {
            Check.same(wear, TermEdges.withWear(wear).wear(0));
        }
        MapHall hall = TermEdges.withWear(9);
        hall.fold(0);
        Check.same(9, hall.wear(0));
    }

    private static void isTorn() {
        MapHall hall = TermEdges.withWear(4);
        Check.same(false, hall.isTorn(0));
        Check.same(5, hall.fold(0));
        Check.same(true, hall.isTorn(0));
        hall.unfold(0);
        Check.same(true, hall.isTorn(0));
    }

    private static void isFolded() {
        MapHall hall = SheetTests.withSheet("v");
        Check.same(false, hall.isFolded(0));
        hall.fold(0);
        Check.same(true, hall.isFolded(0));
        hall.unfold(0);
        Check.same(false, hall.isFolded(0));
    }

    private static void creaseCount() {
        MapHall hall = SheetTests.withSheet("");
        Check.same(0, hall.creaseCount(0));
        SheetTests.addCreases(hall, 0, "vmvmvm");
        Check.same(6, hall.creaseCount(0));
    }

    private static void crease() {
        MapHall hall = SheetTests.withSheet("vmmmmv");
        Check.same('v', hall.crease(0, 0));
        Check.same('m', hall.crease(0, 1));
        Check.same('m', hall.crease(0, 4));
        Check.same('v', hall.crease(0, 5));
    }

    private static void creaseIndex() {
        MapHall hall = SheetTests.withSheet("");
        for (int count = 0; count <= 6; count++) {
            for (int bad : Refusals.outside(0, count - 1)) {
                Refusals.noIndex(hall, () -> hall.crease(0, bad));
            }
            if (count < 6) {
                hall.addCrease(0, 'm');
                Check.same('m', hall.crease(0, count));
            }
        }
    }

    private static void cellOf() {
        for (int cell = 0; cell < 9; cell++) {
            MapHall hall = TableTests.withKinds("s");
            hall.put(0, cell, 0);
            Check.same(cell, hall.cellOf(0));
        }
    }

    private static void cellOfNone() {
        MapHall hall = TableTests.withKinds("s");
        Refusals.nothingThere(hall, () -> hall.cellOf(0));
        hall.put(0, 0, 0);
        Check.same(0, hall.cellOf(0));
        hall.take(0);
        Refusals.nothingThere(hall, () -> hall.cellOf(0));
    }

    private static void sheetIn() {
        MapHall hall = TableTests.withKinds("sssssssss");
        for (int sheet = 0; sheet < 9; sheet++) {
            hall.put(sheet, 8 - sheet, 0);
            Check.same(sheet, hall.sheetIn(8 - sheet));
        }
    }

    private static void turnsIn() {
        for (int turns = 0; turns < 4; turns++) {
            MapHall hall = TableTests.withKinds("s");
            hall.put(0, 8, turns);
            Check.same(turns, hall.turnsIn(8));
            hall.take(8);
            hall.put(0, 0, 3 - turns);
            Check.same(3 - turns, hall.turnsIn(0));
        }
    }

    private static void borderIn() {
        MapHall hall = new MapHall();
        hall.addSheet(0, 9, 1, 8, 's');
        hall.put(0, 8, 1);
        Check.same(8, hall.borderIn(8, 0));
        Check.same(0, hall.borderIn(8, 1));
        Check.same(9, hall.borderIn(8, 2));
        Check.same(1, hall.borderIn(8, 3));
    }

    private static void borderInSides() {
        MapHall hall = TableTests.laid("s........");
        for (int bad : Refusals.outside(0, 3)) {
            Refusals.badArgument(hall, () -> hall.borderIn(0, bad));
        }
        Check.same(0, hall.borderIn(0, 0));
        Check.same(0, hall.borderIn(0, 3));
    }

    private static void borderInEmpty() {
        emptyCell((hall, cell) -> hall.borderIn(cell, 0));
        emptyCell((hall, cell) -> hall.borderIn(cell, 3));
    }

    private static void borderInFirst() {
        MapHall hall = TableTests.laid("s........");
        Refusals.noIndex(hall, () -> hall.borderIn(9, 4));
        Refusals.noIndex(hall, () -> hall.borderIn(-1, -1));
        Refusals.badArgument(hall, () -> hall.borderIn(1, 4));
        Refusals.badArgument(hall, () -> hall.borderIn(1, -1));
        Refusals.nothingThere(hall, () -> hall.borderIn(1, 0));
    }

    private static void emptyCells() {
        MapHall hall = TableTests.withKinds("sssssssss");
        Check.same(9, hall.emptyCells());
        for (int sheet = 0; sheet < 9; sheet++) {
            hall.put(sheet, sheet, 0);
            Check.same(8 - sheet, hall.emptyCells());
        }
    }

    private static void paste() {
        MapHall hall = new MapHall();
        Check.same(0, hall.paste());
        hall.addPaste(20);
        hall.addPaste(20);
        hall.addPaste(10);
        Check.same(50, hall.paste());
        Refusals.wrongState(hall, () -> hall.addPaste(1));
    }

    /** Sheet 0 lies in cell 0 with a 2 in the east; sheet 1 matches beside it if it is not turned. */
    private static MapHall beside(String creases) {
        MapHall hall = new MapHall();
        hall.addSheet(1, 2, 3, 4, 's');
        hall.addSheet(5, 6, 7, 2, 's');
        hall.put(0, 0, 0);
        SheetTests.addCreases(hall, 1, creases);
        return hall;
    }

    private static void besideMatches(MapHall hall) {
        Check.same(true, hall.matches(1, 1, 0));
        for (int turns = 1; turns < 4; turns++) {
            Check.same(false, hall.matches(1, 1, turns));
        }
    }

    private static void matchesAnyState() {
        besideMatches(beside(""));
        MapHall folded = beside("v");
        folded.fold(1);
        besideMatches(folded);
        MapHall torn = beside("vvvvv");
        torn.fold(1);
        torn.unfold(1);
        besideMatches(torn);
    }

    private static void matchesAsPut() {
        MapHall hall = beside("");
        for (int cell = 1; cell < 9; cell++) {
            for (int turns = 0; turns < 4; turns++) {
                int place = cell;
                int quarters = turns;
                if (hall.matches(1, cell, turns)) {
                    Check.same(cell == 1 ? 1 : 0, hall.put(1, cell, turns));
                    hall.take(cell);
                } else {
                    Refusals.notPossible(hall, () -> hall.put(1, place, quarters));
                }
            }
        }
    }

    private static void matchesSheet() {
        noSuchSheet((hall, sheet) -> hall.matches(sheet, 0, 0));
    }

    private static void matchesCell() {
        MapHall hall = beside("");
        for (int bad : Refusals.outside(0, 8)) {
            Refusals.noIndex(hall, () -> hall.matches(1, bad, 0));
        }
        Check.same(true, hall.matches(1, 8, 0));
        hall.take(0);
        Check.same(true, hall.matches(1, 0, 0));
    }

    private static void matchesTurns() {
        MapHall hall = beside("");
        for (int bad : Refusals.outside(0, 3)) {
            Refusals.badArgument(hall, () -> hall.matches(1, 8, bad));
        }
        Check.same(true, hall.matches(1, 8, 0));
        Check.same(true, hall.matches(1, 8, 3));
    }

    private static void matchesFullCell() {
        MapHall hall = TableTests.laid("sssssssss");
        for (int cell = 0; cell < 8; cell++) {
            int full = cell;
            hall.take(8);
            Refusals.wrongState(hall, () -> hall.matches(8, full, 0));
            Check.same(true, hall.matches(8, 8, 0));
            hall.put(8, 8, 0);
        }
    }

    private static void matchesOnTable() {
        MapHall hall = TableTests.laid("s........");
        Refusals.wrongState(hall, () -> hall.matches(0, 8, 0));
        hall.take(0);
        Check.same(true, hall.matches(0, 8, 0));
    }

    private static void matchesFirst() {
        MapHall hall = beside("");
        Refusals.noIndex(hall, () -> hall.matches(2, 0, 4));
        Refusals.noIndex(hall, () -> hall.matches(0, 9, 4));
        Refusals.badArgument(hall, () -> hall.matches(1, 0, 4));
        Refusals.badArgument(hall, () -> hall.matches(0, 1, -1));
        Refusals.wrongState(hall, () -> hall.matches(0, 0, 0));
        Refusals.wrongState(hall, () -> hall.matches(0, 1, 0));
    }

    private static void waysToPut() {
        MapHall hall = TableTests.withKinds("ssssssss");
        hall.addSheet(0, 0, 0, 0, 's');
        Check.same(36, hall.waysToPut(8));
        for (int sheet = 0; sheet < 8; sheet++) {
            hall.put(sheet, sheet, 0);
            Check.same(4 * (8 - sheet), hall.waysToPut(8));
        }
        MapHall one = beside("");
        // Six cells have no neighbour; in cell 1 one number of quarters matches, in cell 3 none does.
        Check.same(4 * 6 + 1, one.waysToPut(1));
        MapHall ring = TableTests.laid("ssss.ssss");
        ring.addSheet(0, 0, 0, 1, 's');
        Check.same(0, ring.waysToPut(8));
    }

    private static void waysOnTable() {
        MapHall hall = TableTests.laid("s........");
        Check.same(0, hall.waysToPut(0));
        hall.take(0);
        Check.same(36, hall.waysToPut(0));
    }

    private static void waysFolded() {
        MapHall hall = SheetTests.withSheet("v");
        hall.fold(0);
        Check.same(0, hall.waysToPut(0));
        hall.unfold(0);
        Check.same(36, hall.waysToPut(0));
    }

    private static void waysTorn() {
        Check.same(36, TermEdges.withWear(4).waysToPut(0));
        MapHall hall = TermEdges.withWear(5);
        Check.same(0, hall.waysToPut(0));
        hall.addPaste(5);
        hall.mend(0);
        Check.same(36, hall.waysToPut(0));
    }
}
