/** Promises 1 to 9: the bounds of each answer and of each reason to refuse, on both sides. */
final class ChangeEdges {
    static void run(Check check) {
        check.test("promise 1: no sheets, an empty table, no paste", ChangeEdges::newHall);
        check.test("promise 2: each code on its own from 0 to 9", ChangeEdges::addSheetCodes);
        check.test("promise 2: each kind, and no other letter", ChangeEdges::addSheetKinds);
        check.test("promise 2: 9 sheets refuse, 8 don't", ChangeEdges::addSheetFull);
        check.test("promise 2: a bad argument before a full hall", ChangeEdges::addSheetFirst);
        check.test("promise 3: answers 1 to 6", ChangeEdges::addCreaseAnswers);
        check.test("promise 3: no such sheet", ChangeEdges::addCreaseSheet);
        check.test("promise 3: no such kind of crease", ChangeEdges::addCreaseKinds);
        check.test("promise 3: 6 creases refuse, 5 don't", ChangeEdges::addCreaseFull);
        check.test("promise 3: a folded sheet refuses, a flat one doesn't", ChangeEdges::addCreaseFolded);
        check.test("promise 3: the reason listed first", ChangeEdges::addCreaseFirst);
        check.test("promise 4: the wear grows by the creases, not above 9", ChangeEdges::foldAnswers);
        check.test("promise 4: no such sheet", ChangeEdges::foldSheet);
        check.test("promise 4: a folded sheet refuses", ChangeEdges::foldFolded);
        check.test("promise 4: a sheet without creases refuses", ChangeEdges::foldCreases);
        check.test("promise 4: a sheet on the table refuses", ChangeEdges::foldOnTable);
        check.test("promise 5: answers 1 to 9 flat sheets", ChangeEdges::unfoldAnswers);
        check.test("promise 5: no such sheet", ChangeEdges::unfoldSheet);
        check.test("promise 5: a flat sheet refuses", ChangeEdges::unfoldFlat);
        check.test("promise 6: takes as much paste as wear, from 1 to 9", ChangeEdges::mendAnswers);
        check.test("promise 6: no such sheet", ChangeEdges::mendSheet);
        check.test("promise 6: no wear refuses, a wear of 1 doesn't", ChangeEdges::mendWear);
        check.test("promise 6: a folded sheet refuses", ChangeEdges::mendFolded);
        check.test("promise 6: less paste refuses, just as much doesn't", ChangeEdges::mendPaste);
        check.test("promise 6: the reason listed first", ChangeEdges::mendFirst);
        check.test("promise 7: answers 0 to 4", ChangeEdges::putAnswers);
        check.test("promise 7: no such sheet", ChangeEdges::putSheet);
        check.test("promise 7: no such cell", ChangeEdges::putCell);
        check.test("promise 7: quarters from 0 to 3", ChangeEdges::putTurns);
        check.test("promise 7: a folded sheet refuses", ChangeEdges::putFolded);
        check.test("promise 7: a torn sheet refuses", ChangeEdges::putTorn);
        check.test("promise 7: a sheet on the table refuses", ChangeEdges::putOnTable);
        check.test("promise 7: a cell that is not empty refuses", ChangeEdges::putFullCell);
        check.test("promise 7: a sheet that does not match refuses", ChangeEdges::putMatching);
        check.test("promise 7: the reason listed first", ChangeEdges::putFirst);
        check.test("promise 8: answers 0 to 8", ChangeEdges::takeAnswers);
        check.test("promise 8: no such cell", ChangeEdges::takeCell);
        check.test("promise 8: an empty cell refuses", ChangeEdges::takeEmpty);
        check.test("promise 9: an amount from 1 to 20", ChangeEdges::addPasteAmounts);
        check.test("promise 9: 50 in all, and no more", ChangeEdges::addPasteLimit);
        check.test("promise 9: a bad amount before too much paste", ChangeEdges::addPasteFirst);
    }

    private static void newHall() {
        MapHall hall = new MapHall();
        Check.same(0, hall.sheetCount());
        Check.same(9, hall.emptyCells());
        Check.same(0, hall.paste());
        Refusals.noIndex(hall, () -> hall.kind(0));
    }

    private static void addSheetCodes() {
        for (int side = 0; side < 4; side++) {
            MapHall hall = new MapHall();
            for (int good : new int[] {0, 9}) {
                int[] codes = {5, 5, 5, 5};
                codes[side] = good;
                int sheet = hall.addSheet(codes[0], codes[1], codes[2], codes[3], 'l');
                Check.same(good, hall.border(sheet, side));
            }
            for (int bad : Refusals.outside(0, 9)) {
                int[] codes = {5, 5, 5, 5};
                codes[side] = bad;
                Refusals.badArgument(hall,
                        () -> hall.addSheet(codes[0], codes[1], codes[2], codes[3], 'l'));
            }
        }
    }

    private static void addSheetKinds() {
        MapHall hall = new MapHall();
        for (char good : "slc".toCharArray()) {
            Check.same(good, hall.kind(hall.addSheet(0, 0, 0, 0, good)));
        }
        // The letters beside the kinds, the large ones, and those with the same low eight bits.
        for (char bad : "rtkmbdvSLC\u0173\u016c\u0163\u0000\uffff".toCharArray()) {
            Refusals.badArgument(hall, () -> hall.addSheet(0, 0, 0, 0, bad));
        }
    }

    private static void addSheetFull() {
        MapHall hall = TableTests.withKinds("ssssssss");
        Check.same(8, hall.addSheet(9, 9, 9, 9, 'c'));
        Refusals.wrongState(hall, () -> hall.addSheet(9, 9, 9, 9, 'c'));
    }

    private static void addSheetFirst() {
        MapHall hall = TableTests.withKinds("sssssssss");
        Refusals.badArgument(hall, () -> hall.addSheet(10, 0, 0, 0, 's'));
        Refusals.badArgument(hall, () -> hall.addSheet(0, 0, 0, -1, 's'));
        Refusals.badArgument(hall, () -> hall.addSheet(0, 0, 0, 0, 'v'));
    }

    private static void addCreaseAnswers() {
        MapHall hall = SheetTests.withSheet("");
        for (int count = 1; count <= 6; count++) {
            Check.same(count, hall.addCrease(0, "vm".charAt(count % 2)));
            Check.same("vm".charAt(count % 2), hall.crease(0, count - 1));
        }
    }

    private static void addCreaseSheet() {
        MapHall empty = new MapHall();
        Refusals.noIndex(empty, () -> empty.addCrease(0, 'v'));
        MapHall hall = TableTests.withKinds("sl");
        for (int bad : Refusals.outside(0, 1)) {
            Refusals.noIndex(hall, () -> hall.addCrease(bad, 'v'));
        }
        Check.same(1, hall.addCrease(0, 'v'));
        Check.same(1, hall.addCrease(1, 'v'));
    }

    private static void addCreaseKinds() {
        MapHall hall = SheetTests.withSheet("");
        for (char bad : "uwlnsVM\u0176\u016d\u0000\uffff".toCharArray()) {
            Refusals.badArgument(hall, () -> hall.addCrease(0, bad));
        }
        Check.same(1, hall.addCrease(0, 'v'));
        Check.same(2, hall.addCrease(0, 'm'));
    }

    private static void addCreaseFull() {
        MapHall hall = SheetTests.withSheet("vmvmv");
        Check.same(6, hall.addCrease(0, 'm'));
        Refusals.wrongState(hall, () -> hall.addCrease(0, 'v'));
    }

    private static void addCreaseFolded() {
        MapHall hall = SheetTests.withSheet("v");
        hall.fold(0);
        Refusals.wrongState(hall, () -> hall.addCrease(0, 'v'));
        hall.unfold(0);
        Check.same(2, hall.addCrease(0, 'v'));
    }

    private static void addCreaseFirst() {
        MapHall full = SheetTests.withSheet("vmvmvm");
        Refusals.noIndex(full, () -> full.addCrease(1, 'x'));
        Refusals.badArgument(full, () -> full.addCrease(0, 'x'));
        MapHall folded = SheetTests.withSheet("v");
        folded.fold(0);
        Refusals.badArgument(folded, () -> folded.addCrease(0, 'x'));
    }

    private static void foldAnswers() {
        for (int wear = 0; wear <= 9; wear++) {
            for (int creases = 1; creases <= 6; creases++) {
                MapHall hall = TermEdges.withWear(wear);
                SheetTests.addCreases(hall, 0, "mmmmmm".substring(6 - creases + hall.creaseCount(0)));
                int due = Math.min(9, wear + creases);
                Check.same(due, hall.fold(0));
                Check.same(due, hall.wear(0));
                Check.same(true, hall.isFolded(0));
            }
        }
    }

    private static void foldSheet() {
        MapHall empty = new MapHall();
        Refusals.noIndex(empty, () -> empty.fold(0));
        MapHall hall = SheetTests.withSheet("v");
        for (int bad : Refusals.outside(0, 0)) {
            Refusals.noIndex(hall, () -> hall.fold(bad));
        }
    }

    private static void foldFolded() {
        MapHall hall = SheetTests.withSheet("v");
        hall.fold(0);
        Refusals.wrongState(hall, () -> hall.fold(0));
        hall.unfold(0);
        Check.same(2, hall.fold(0));
    }

    private static void foldCreases() {
        MapHall hall = SheetTests.withSheet("");
        Refusals.wrongState(hall, () -> hall.fold(0));
        hall.addCrease(0, 'v');
        Check.same(1, hall.fold(0));
    }

    private static void foldOnTable() {
        for (int cell : new int[] {0, 8}) {
            MapHall hall = SheetTests.withSheet("v");
            hall.put(0, cell, 0);
            Refusals.wrongState(hall, () -> hall.fold(0));
            hall.take(cell);
            Check.same(1, hall.fold(0));
        }
    }

    private static void unfoldAnswers() {
        MapHall hall = TableTests.withKinds("sssssssss");
        for (int sheet = 0; sheet < 9; sheet++) {
            hall.addCrease(sheet, 'v');
            hall.fold(sheet);
        }
        for (int sheet = 0; sheet < 9; sheet++) {
            Check.same(sheet + 1, hall.unfold(sheet));
            Check.same(false, hall.isFolded(sheet));
            Check.same(1, hall.wear(sheet));
        }
    }

    private static void unfoldSheet() {
        MapHall empty = new MapHall();
        Refusals.noIndex(empty, () -> empty.unfold(0));
        MapHall hall = SheetTests.withSheet("v");
        hall.fold(0);
        for (int bad : Refusals.outside(0, 0)) {
            Refusals.noIndex(hall, () -> hall.unfold(bad));
        }
        Check.same(1, hall.unfold(0));
    }

    private static void unfoldFlat() {
        MapHall hall = SheetTests.withSheet("v");
        Refusals.wrongState(hall, () -> hall.unfold(0));
        hall.fold(0);
        Check.same(1, hall.unfold(0));
        Refusals.wrongState(hall, () -> hall.unfold(0));
    }

    private static void addPaste(MapHall hall, int amount) {
        for (int left = amount; left > 0; left -= 20) {
            hall.addPaste(Math.min(20, left));
        }
    }

    private static void mendAnswers() {
        for (int wear = 1; wear <= 9; wear++) {
            for (int amount : new int[] {wear, 50}) {
                MapHall hall = TermEdges.withWear(wear);
                addPaste(hall, amount);
                Check.same(amount - wear, hall.mend(0));
                Check.same(amount - wear, hall.paste());
                Check.same(wear, hall.usedPaste());
                Check.same(0, hall.wear(0));
                Check.same(false, hall.isTorn(0));
            }
        }
    }

    private static void mendSheet() {
        MapHall empty = new MapHall();
        Refusals.noIndex(empty, () -> empty.mend(0));
        MapHall hall = TermEdges.withWear(1);
        hall.addPaste(1);
        for (int bad : Refusals.outside(0, 0)) {
            Refusals.noIndex(hall, () -> hall.mend(bad));
        }
        Check.same(0, hall.mend(0));
    }

    private static void mendWear() {
        MapHall hall = TermEdges.withWear(1);
        hall.addPaste(20);
        Check.same(19, hall.mend(0));
        Refusals.wrongState(hall, () -> hall.mend(0));
    }

    private static void mendFolded() {
        MapHall hall = SheetTests.withSheet("v");
        hall.addPaste(20);
        hall.fold(0);
        Refusals.wrongState(hall, () -> hall.mend(0));
        hall.unfold(0);
        Check.same(19, hall.mend(0));
    }

    private static void mendPaste() {
        for (int wear = 1; wear <= 9; wear++) {
            MapHall hall = TermEdges.withWear(wear);
            addPaste(hall, wear - 1);
            Refusals.notPossible(hall, () -> hall.mend(0));
            hall.addPaste(1);
            Check.same(0, hall.mend(0));
        }
    }

    private static void mendFirst() {
        MapHall noPaste = new MapHall();
        Refusals.noIndex(noPaste, () -> noPaste.mend(0));
        MapHall noWear = SheetTests.withSheet("v");
        Refusals.wrongState(noWear, () -> noWear.mend(0));
        noWear.fold(0);
        // Folded, and less paste than wear.
        Refusals.wrongState(noWear, () -> noWear.mend(0));
    }

    private static void putAnswers() {
        for (int count = 0; count <= 4; count++) {
            MapHall hall = TableTests.withKinds("sssss");
            for (int sheet = 0; sheet < count; sheet++) {
                Check.same(0, hall.put(sheet, 2 * sheet + 1, sheet));
            }
            Check.same(count, hall.put(4, 4, 0));
            Check.same(4, hall.cellOf(4));
            Check.same(4, hall.sheetIn(4));
        }
    }

    private static void putSheet() {
        MapHall empty = new MapHall();
        Refusals.noIndex(empty, () -> empty.put(0, 0, 0));
        MapHall hall = TableTests.withKinds("sl");
        for (int bad : Refusals.outside(0, 1)) {
            Refusals.noIndex(hall, () -> hall.put(bad, 0, 0));
        }
        Check.same(0, hall.put(0, 0, 0));
        Check.same(0, hall.put(1, 8, 0));
    }

    private static void putCell() {
        MapHall hall = TableTests.withKinds("sl");
        for (int bad : Refusals.outside(0, 8)) {
            Refusals.noIndex(hall, () -> hall.put(0, bad, 0));
        }
        Check.same(0, hall.put(0, 0, 0));
        Check.same(0, hall.put(1, 8, 0));
    }

    private static void putTurns() {
        MapHall hall = TableTests.withKinds("sl");
        for (int bad : Refusals.outside(0, 3)) {
            Refusals.badArgument(hall, () -> hall.put(0, 0, bad));
        }
        Check.same(0, hall.put(0, 0, 0));
        Check.same(0, hall.turnsIn(0));
        Check.same(0, hall.put(1, 8, 3));
        Check.same(3, hall.turnsIn(8));
    }

    private static void putFolded() {
        MapHall hall = SheetTests.withSheet("v");
        hall.fold(0);
        Check.same(false, hall.isTorn(0));
        Refusals.wrongState(hall, () -> hall.put(0, 0, 0));
        hall.unfold(0);
        Check.same(0, hall.put(0, 0, 0));
    }

    private static void putTorn() {
        MapHall torn = TermEdges.withWear(5);
        Refusals.wrongState(torn, () -> torn.put(0, 0, 0));
        torn.addPaste(5);
        torn.mend(0);
        Check.same(0, torn.put(0, 0, 0));
        Check.same(0, TermEdges.withWear(4).put(0, 0, 0));
    }

    private static void putOnTable() {
        for (int cell : new int[] {0, 8}) {
            MapHall hall = TableTests.withKinds("s");
            hall.put(0, cell, 0);
            Refusals.wrongState(hall, () -> hall.put(0, 4, 0));
            Refusals.wrongState(hall, () -> hall.put(0, cell, 0));
            hall.take(cell);
            Check.same(0, hall.put(0, 4, 0));
        }
    }

    private static void putFullCell() {
        for (int cell : new int[] {0, 8}) {
            MapHall hall = TableTests.withKinds("sl");
            hall.put(0, cell, 0);
            Refusals.wrongState(hall, () -> hall.put(1, cell, 0));
            hall.take(cell);
            Check.same(0, hall.put(1, cell, 0));
        }
    }

    private static void putMatching() {
        MapHall hall = TableTests.withKinds("s");
        hall.addSheet(1, 0, 1, 1, 'l');
        hall.put(0, 4, 0);
        for (int turns = 1; turns < 4; turns++) {
            int wrong = turns;
            Refusals.notPossible(hall, () -> hall.put(1, 3, wrong));
        }
        Check.same(1, hall.put(1, 3, 0));
    }

    private static void putFirst() {
        MapHall hall = TableTests.withKinds("s");
        hall.addSheet(1, 1, 1, 1, 's');
        hall.put(0, 0, 0);
        Refusals.noIndex(hall, () -> hall.put(2, 0, 4));
        Refusals.noIndex(hall, () -> hall.put(0, 9, 4));
        Refusals.badArgument(hall, () -> hall.put(0, 0, 4));
        Refusals.badArgument(hall, () -> hall.put(1, 0, -1));
        Refusals.notPossible(hall, () -> hall.put(1, 1, 0));
        hall.addCrease(1, 'v');
        hall.fold(1);
        // Folded, and without a match.
        Refusals.wrongState(hall, () -> hall.put(1, 1, 0));
        Refusals.badArgument(hall, () -> hall.put(1, 1, 4));
    }

    private static void takeAnswers() {
        MapHall hall = TableTests.laid("sssssssss");
        for (int cell = 8; cell >= 0; cell--) {
            Check.same(cell, hall.take(cell));
            Check.same(9 - cell, hall.emptyCells());
        }
    }

    private static void takeCell() {
        MapHall hall = TableTests.laid("sssssssss");
        for (int bad : Refusals.outside(0, 8)) {
            Refusals.noIndex(hall, () -> hall.take(bad));
        }
    }

    private static void takeEmpty() {
        MapHall hall = TableTests.laid("s.......s");
        for (int cell = 1; cell < 8; cell++) {
            int empty = cell;
            Refusals.nothingThere(hall, () -> hall.take(empty));
        }
        Check.same(0, hall.take(0));
        Refusals.nothingThere(hall, () -> hall.take(0));
        Check.same(1, hall.take(8));
        Refusals.nothingThere(hall, () -> hall.take(8));
    }

    private static void addPasteAmounts() {
        MapHall hall = new MapHall();
        for (int bad : Refusals.outside(1, 20)) {
            Refusals.badArgument(hall, () -> hall.addPaste(bad));
        }
        Check.same(1, hall.addPaste(1));
        Check.same(21, hall.addPaste(20));
    }

    private static void addPasteLimit() {
        for (int amount = 1; amount <= 20; amount++) {
            int more = amount;
            MapHall hall = new MapHall();
            addPaste(hall, 50 - amount);
            Check.same(50, hall.addPaste(amount));
            hall.undo();
            hall.addPaste(1);
            Refusals.wrongState(hall, () -> hall.addPaste(more));
        }
    }

    private static void addPasteFirst() {
        MapHall hall = new MapHall();
        addPaste(hall, 50);
        Refusals.badArgument(hall, () -> hall.addPaste(21));
        Refusals.badArgument(hall, () -> hall.addPaste(0));
        Refusals.badArgument(hall, () -> hall.addPaste(Integer.MAX_VALUE));
        Refusals.wrongState(hall, () -> hall.addPaste(1));
    }
}
